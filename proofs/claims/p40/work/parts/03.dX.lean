theorem dX0_init_0 : decode cX0_init 0 = .ok (.aload_n 0, 1) := by decide +kernel
theorem dX0_init_1 : decode cX0_init 1 = .ok (.invokespecial 3, 3) := by decide +kernel
theorem dX0_init_4 : decode cX0_init 4 = .ok (.aload_n 0, 1) := by decide +kernel
theorem dX0_init_5 : decode cX0_init 5 = .ok (.new 9, 3) := by decide +kernel
theorem dX0_init_8 : decode cX0_init 8 = .ok (.dup, 1) := by decide +kernel
theorem dX0_init_9 : decode cX0_init 9 = .ok (.invokespecial 11, 3) := by decide +kernel
theorem dX0_init_12 : decode cX0_init 12 = .ok (.putfield 12, 3) := by decide +kernel
theorem dX0_init_15 : decode cX0_init 15 = .ok (.aload_n 0, 1) := by decide +kernel
theorem dX0_init_16 : decode cX0_init 16 = .ok (.aload_n 1, 1) := by decide +kernel
theorem dX0_init_17 : decode cX0_init 17 = .ok (.putfield 18, 3) := by decide +kernel
theorem dX0_init_20 : decode cX0_init 20 = .ok (.return_, 1) := by decide +kernel
theorem dX0_arrange_0 : decode cX0_arrange 0 = .ok (.iconst 0, 1) := by decide +kernel
theorem dX0_arrange_1 : decode cX0_arrange 1 = .ok (.istore_n 1, 1) := by decide +kernel
theorem dX0_arrange_2 : decode cX0_arrange 2 = .ok (.iconst 0, 1) := by decide +kernel
theorem dX0_arrange_3 : decode cX0_arrange 3 = .ok (.istore_n 2, 1) := by decide +kernel
theorem dX0_arrange_4 : decode cX0_arrange 4 = .ok (.iload_n 2, 1) := by decide +kernel
theorem dX0_arrange_5 : decode cX0_arrange 5 = .ok (.aload_n 0, 1) := by decide +kernel
theorem dX0_arrange_6 : decode cX0_arrange 6 = .ok (.getfield 18, 3) := by decide +kernel
theorem dX0_arrange_9 : decode cX0_arrange 9 = .ok (.getfield 22, 3) := by decide +kernel
theorem dX0_arrange_12 : decode cX0_arrange 12 = .ok (.if_icmp .ge 34, 3) := by decide +kernel
theorem dX0_arrange_15 : decode cX0_arrange 15 = .ok (.aload_n 0, 1) := by decide +kernel
theorem dX0_arrange_16 : decode cX0_arrange 16 = .ok (.getfield 18, 3) := by decide +kernel
theorem dX0_arrange_19 : decode cX0_arrange 19 = .ok (.getfield 28, 3) := by decide +kernel
theorem dX0_arrange_22 : decode cX0_arrange 22 = .ok (.iload_n 2, 1) := by decide +kernel
theorem dX0_arrange_23 : decode cX0_arrange 23 = .ok (.baload, 1) := by decide +kernel
theorem dX0_arrange_24 : decode cX0_arrange 24 = .ok (.ifCond .eq 16, 3) := by decide +kernel
theorem dX0_arrange_27 : decode cX0_arrange 27 = .ok (.aload_n 0, 1) := by decide +kernel
theorem dX0_arrange_28 : decode cX0_arrange 28 = .ok (.getfield 12, 3) := by decide +kernel
theorem dX0_arrange_31 : decode cX0_arrange 31 = .ok (.getfield 32, 3) := by decide +kernel
theorem dX0_arrange_34 : decode cX0_arrange 34 = .ok (.iload_n 1, 1) := by decide +kernel
theorem dX0_arrange_35 : decode cX0_arrange 35 = .ok (.iload_n 2, 1) := by decide +kernel
theorem dX0_arrange_36 : decode cX0_arrange 36 = .ok (.iastore, 1) := by decide +kernel
theorem dX0_arrange_37 : decode cX0_arrange 37 = .ok (.iinc 1 1, 3) := by decide +kernel
theorem dX0_arrange_40 : decode cX0_arrange 40 = .ok (.iinc 2 1, 3) := by decide +kernel
theorem dX0_arrange_43 : decode cX0_arrange 43 = .ok (.goto (-39), 3) := by decide +kernel
theorem dX0_arrange_46 : decode cX0_arrange 46 = .ok (.aload_n 0, 1) := by decide +kernel
theorem dX0_arrange_47 : decode cX0_arrange 47 = .ok (.iload_n 1, 1) := by decide +kernel
theorem dX0_arrange_48 : decode cX0_arrange 48 = .ok (.putfield 36, 3) := by decide +kernel
theorem dX0_arrange_51 : decode cX0_arrange 51 = .ok (.iconst 0, 1) := by decide +kernel
theorem dX0_arrange_52 : decode cX0_arrange 52 = .ok (.istore_n 2, 1) := by decide +kernel
theorem dX0_arrange_53 : decode cX0_arrange 53 = .ok (.iload_n 2, 1) := by decide +kernel
theorem dX0_arrange_54 : decode cX0_arrange 54 = .ok (.aload_n 0, 1) := by decide +kernel
theorem dX0_arrange_55 : decode cX0_arrange 55 = .ok (.getfield 18, 3) := by decide +kernel
theorem dX0_arrange_58 : decode cX0_arrange 58 = .ok (.getfield 22, 3) := by decide +kernel
theorem dX0_arrange_61 : decode cX0_arrange 61 = .ok (.if_icmp .ge 34, 3) := by decide +kernel
theorem dX0_arrange_64 : decode cX0_arrange 64 = .ok (.aload_n 0, 1) := by decide +kernel
theorem dX0_arrange_65 : decode cX0_arrange 65 = .ok (.getfield 18, 3) := by decide +kernel
theorem dX0_arrange_68 : decode cX0_arrange 68 = .ok (.getfield 28, 3) := by decide +kernel
theorem dX0_arrange_71 : decode cX0_arrange 71 = .ok (.iload_n 2, 1) := by decide +kernel
theorem dX0_arrange_72 : decode cX0_arrange 72 = .ok (.baload, 1) := by decide +kernel
theorem dX0_arrange_73 : decode cX0_arrange 73 = .ok (.ifCond .ne 16, 3) := by decide +kernel
theorem dX0_arrange_76 : decode cX0_arrange 76 = .ok (.aload_n 0, 1) := by decide +kernel
theorem dX0_arrange_77 : decode cX0_arrange 77 = .ok (.getfield 12, 3) := by decide +kernel
theorem dX0_arrange_80 : decode cX0_arrange 80 = .ok (.getfield 32, 3) := by decide +kernel
theorem dX0_arrange_83 : decode cX0_arrange 83 = .ok (.iload_n 1, 1) := by decide +kernel
theorem dX0_arrange_84 : decode cX0_arrange 84 = .ok (.iload_n 2, 1) := by decide +kernel
theorem dX0_arrange_85 : decode cX0_arrange 85 = .ok (.iastore, 1) := by decide +kernel
theorem dX0_arrange_86 : decode cX0_arrange 86 = .ok (.iinc 1 1, 3) := by decide +kernel
theorem dX0_arrange_89 : decode cX0_arrange 89 = .ok (.iinc 2 1, 3) := by decide +kernel
theorem dX0_arrange_92 : decode cX0_arrange 92 = .ok (.goto (-39), 3) := by decide +kernel
theorem dX0_arrange_95 : decode cX0_arrange 95 = .ok (.aload_n 0, 1) := by decide +kernel
theorem dX0_arrange_96 : decode cX0_arrange 96 = .ok (.getfield 12, 3) := by decide +kernel
theorem dX0_arrange_99 : decode cX0_arrange 99 = .ok (.iload_n 1, 1) := by decide +kernel
theorem dX0_arrange_100 : decode cX0_arrange 100 = .ok (.putfield 39, 3) := by decide +kernel
theorem dX0_arrange_103 : decode cX0_arrange 103 = .ok (.return_, 1) := by decide +kernel
theorem dX0_evaluate_0 : decode cX0_evaluate 0 = .ok (.aload_n 0, 1) := by decide +kernel
theorem dX0_evaluate_1 : decode cX0_evaluate 1 = .ok (.invokevirtual 42, 3) := by decide +kernel
theorem dX0_evaluate_4 : decode cX0_evaluate 4 = .ok (.aload_n 0, 1) := by decide +kernel
theorem dX0_evaluate_5 : decode cX0_evaluate 5 = .ok (.iload_n 1, 1) := by decide +kernel
theorem dX0_evaluate_6 : decode cX0_evaluate 6 = .ok (.aload_n 2, 1) := by decide +kernel
theorem dX0_evaluate_7 : decode cX0_evaluate 7 = .ok (.iconst 0, 1) := by decide +kernel
theorem dX0_evaluate_8 : decode cX0_evaluate 8 = .ok (.invokevirtual 45, 3) := by decide +kernel
theorem dX0_evaluate_11 : decode cX0_evaluate 11 = .ok (.return_, 1) := by decide +kernel
theorem dX0_evaluateFrom_0 : decode cX0_evaluateFrom 0 = .ok (.iload_n 3, 1) := by decide +kernel
theorem dX0_evaluateFrom_1 : decode cX0_evaluateFrom 1 = .ok (.istore 4, 2) := by decide +kernel
theorem dX0_evaluateFrom_3 : decode cX0_evaluateFrom 3 = .ok (.iload 4, 2) := by decide +kernel
theorem dX0_evaluateFrom_5 : decode cX0_evaluateFrom 5 = .ok (.aload_n 0, 1) := by decide +kernel
theorem dX0_evaluateFrom_6 : decode cX0_evaluateFrom 6 = .ok (.getfield 12, 3) := by decide +kernel
theorem dX0_evaluateFrom_9 : decode cX0_evaluateFrom 9 = .ok (.getfield 39, 3) := by decide +kernel
theorem dX0_evaluateFrom_12 : decode cX0_evaluateFrom 12 = .ok (.if_icmp .ge 74, 3) := by decide +kernel
theorem dX0_evaluateFrom_15 : decode cX0_evaluateFrom 15 = .ok (.aload_n 0, 1) := by decide +kernel
theorem dX0_evaluateFrom_16 : decode cX0_evaluateFrom 16 = .ok (.getfield 12, 3) := by decide +kernel
theorem dX0_evaluateFrom_19 : decode cX0_evaluateFrom 19 = .ok (.getfield 32, 3) := by decide +kernel
theorem dX0_evaluateFrom_22 : decode cX0_evaluateFrom 22 = .ok (.iload 4, 2) := by decide +kernel
theorem dX0_evaluateFrom_24 : decode cX0_evaluateFrom 24 = .ok (.iaload, 1) := by decide +kernel
theorem dX0_evaluateFrom_25 : decode cX0_evaluateFrom 25 = .ok (.istore 5, 2) := by decide +kernel
theorem dX0_evaluateFrom_27 : decode cX0_evaluateFrom 27 = .ok (.iload 5, 2) := by decide +kernel
theorem dX0_evaluateFrom_29 : decode cX0_evaluateFrom 29 = .ok (.aload_n 2, 1) := by decide +kernel
theorem dX0_evaluateFrom_30 : decode cX0_evaluateFrom 30 = .ok (.iload 5, 2) := by decide +kernel
theorem dX0_evaluateFrom_32 : decode cX0_evaluateFrom 32 = .ok (.iaload, 1) := by decide +kernel
theorem dX0_evaluateFrom_33 : decode cX0_evaluateFrom 33 = .ok (.invokestatic 49, 3) := by decide +kernel
theorem dX0_evaluateFrom_36 : decode cX0_evaluateFrom 36 = .ok (.istore 6, 2) := by decide +kernel
theorem dX0_evaluateFrom_38 : decode cX0_evaluateFrom 38 = .ok (.iload_n 1, 1) := by decide +kernel
theorem dX0_evaluateFrom_39 : decode cX0_evaluateFrom 39 = .ok (.bipush 114, 2) := by decide +kernel
theorem dX0_evaluateFrom_41 : decode cX0_evaluateFrom 41 = .ok (.if_icmp .ne 21, 3) := by decide +kernel
theorem dX0_evaluateFrom_44 : decode cX0_evaluateFrom 44 = .ok (.aload_n 0, 1) := by decide +kernel
theorem dX0_evaluateFrom_45 : decode cX0_evaluateFrom 45 = .ok (.iload 5, 2) := by decide +kernel
theorem dX0_evaluateFrom_47 : decode cX0_evaluateFrom 47 = .ok (.iload 6, 2) := by decide +kernel
theorem dX0_evaluateFrom_49 : decode cX0_evaluateFrom 49 = .ok (.aload_n 0, 1) := by decide +kernel
theorem dX0_evaluateFrom_50 : decode cX0_evaluateFrom 50 = .ok (.getfield 18, 3) := by decide +kernel
theorem dX0_evaluateFrom_53 : decode cX0_evaluateFrom 53 = .ok (.getfield 53, 3) := by decide +kernel
theorem dX0_evaluateFrom_56 : decode cX0_evaluateFrom 56 = .ok (.invokevirtual 56, 3) := by decide +kernel
theorem dX0_evaluateFrom_59 : decode cX0_evaluateFrom 59 = .ok (.goto 12, 3) := by decide +kernel
theorem dX0_evaluateFrom_62 : decode cX0_evaluateFrom 62 = .ok (.aload_n 0, 1) := by decide +kernel
theorem dX0_evaluateFrom_63 : decode cX0_evaluateFrom 63 = .ok (.iload 5, 2) := by decide +kernel
theorem dX0_evaluateFrom_65 : decode cX0_evaluateFrom 65 = .ok (.iload 6, 2) := by decide +kernel
theorem dX0_evaluateFrom_67 : decode cX0_evaluateFrom 67 = .ok (.iload_n 1, 1) := by decide +kernel
theorem dX0_evaluateFrom_68 : decode cX0_evaluateFrom 68 = .ok (.invokevirtual 60, 3) := by decide +kernel
theorem dX0_evaluateFrom_71 : decode cX0_evaluateFrom 71 = .ok (.aload_n 0, 1) := by decide +kernel
theorem dX0_evaluateFrom_72 : decode cX0_evaluateFrom 72 = .ok (.getfield 12, 3) := by decide +kernel
theorem dX0_evaluateFrom_75 : decode cX0_evaluateFrom 75 = .ok (.iload 4, 2) := by decide +kernel
theorem dX0_evaluateFrom_77 : decode cX0_evaluateFrom 77 = .ok (.invokevirtual 64, 3) := by decide +kernel
theorem dX0_evaluateFrom_80 : decode cX0_evaluateFrom 80 = .ok (.iinc 4 1, 3) := by decide +kernel
theorem dX0_evaluateFrom_83 : decode cX0_evaluateFrom 83 = .ok (.goto (-80), 3) := by decide +kernel
theorem dX0_evaluateFrom_86 : decode cX0_evaluateFrom 86 = .ok (.aload_n 0, 1) := by decide +kernel
theorem dX0_evaluateFrom_87 : decode cX0_evaluateFrom 87 = .ok (.getfield 12, 3) := by decide +kernel
theorem dX0_evaluateFrom_90 : decode cX0_evaluateFrom 90 = .ok (.invokevirtual 68, 3) := by decide +kernel
theorem dX0_evaluateFrom_93 : decode cX0_evaluateFrom 93 = .ok (.return_, 1) := by decide +kernel
theorem dX0_evaluateReach_0 : decode cX0_evaluateReach 0 = .ok (.aload_n 0, 1) := by decide +kernel
theorem dX0_evaluateReach_1 : decode cX0_evaluateReach 1 = .ok (.invokevirtual 42, 3) := by decide +kernel
theorem dX0_evaluateReach_4 : decode cX0_evaluateReach 4 = .ok (.iconst 0, 1) := by decide +kernel
theorem dX0_evaluateReach_5 : decode cX0_evaluateReach 5 = .ok (.istore_n 3, 1) := by decide +kernel
theorem dX0_evaluateReach_6 : decode cX0_evaluateReach 6 = .ok (.iload_n 3, 1) := by decide +kernel
theorem dX0_evaluateReach_7 : decode cX0_evaluateReach 7 = .ok (.aload_n 0, 1) := by decide +kernel
theorem dX0_evaluateReach_8 : decode cX0_evaluateReach 8 = .ok (.getfield 18, 3) := by decide +kernel
theorem dX0_evaluateReach_11 : decode cX0_evaluateReach 11 = .ok (.getfield 22, 3) := by decide +kernel
theorem dX0_evaluateReach_14 : decode cX0_evaluateReach 14 = .ok (.if_icmp .ge 22, 3) := by decide +kernel
theorem dX0_evaluateReach_17 : decode cX0_evaluateReach 17 = .ok (.aload_n 0, 1) := by decide +kernel
theorem dX0_evaluateReach_18 : decode cX0_evaluateReach 18 = .ok (.iload_n 3, 1) := by decide +kernel
theorem dX0_evaluateReach_19 : decode cX0_evaluateReach 19 = .ok (.iload_n 3, 1) := by decide +kernel
theorem dX0_evaluateReach_20 : decode cX0_evaluateReach 20 = .ok (.aload_n 2, 1) := by decide +kernel
theorem dX0_evaluateReach_21 : decode cX0_evaluateReach 21 = .ok (.iload_n 3, 1) := by decide +kernel
theorem dX0_evaluateReach_22 : decode cX0_evaluateReach 22 = .ok (.iaload, 1) := by decide +kernel
theorem dX0_evaluateReach_23 : decode cX0_evaluateReach 23 = .ok (.invokestatic 49, 3) := by decide +kernel
theorem dX0_evaluateReach_26 : decode cX0_evaluateReach 26 = .ok (.iload_n 1, 1) := by decide +kernel
theorem dX0_evaluateReach_27 : decode cX0_evaluateReach 27 = .ok (.invokevirtual 56, 3) := by decide +kernel
theorem dX0_evaluateReach_30 : decode cX0_evaluateReach 30 = .ok (.iinc 3 1, 3) := by decide +kernel
theorem dX0_evaluateReach_33 : decode cX0_evaluateReach 33 = .ok (.goto (-27), 3) := by decide +kernel
theorem dX0_evaluateReach_36 : decode cX0_evaluateReach 36 = .ok (.aload_n 0, 1) := by decide +kernel
theorem dX0_evaluateReach_37 : decode cX0_evaluateReach 37 = .ok (.invokevirtual 71, 3) := by decide +kernel
theorem dX0_evaluateReach_40 : decode cX0_evaluateReach 40 = .ok (.return_, 1) := by decide +kernel
theorem dX0_solveAll_0 : decode cX0_solveAll 0 = .ok (.iconst 0, 1) := by decide +kernel
theorem dX0_solveAll_1 : decode cX0_solveAll 1 = .ok (.istore_n 1, 1) := by decide +kernel
theorem dX0_solveAll_2 : decode cX0_solveAll 2 = .ok (.iload_n 1, 1) := by decide +kernel
theorem dX0_solveAll_3 : decode cX0_solveAll 3 = .ok (.aload_n 0, 1) := by decide +kernel
theorem dX0_solveAll_4 : decode cX0_solveAll 4 = .ok (.getfield 12, 3) := by decide +kernel
theorem dX0_solveAll_7 : decode cX0_solveAll 7 = .ok (.getfield 39, 3) := by decide +kernel
theorem dX0_solveAll_10 : decode cX0_solveAll 10 = .ok (.if_icmp .ge 17, 3) := by decide +kernel
theorem dX0_solveAll_13 : decode cX0_solveAll 13 = .ok (.aload_n 0, 1) := by decide +kernel
theorem dX0_solveAll_14 : decode cX0_solveAll 14 = .ok (.getfield 12, 3) := by decide +kernel
theorem dX0_solveAll_17 : decode cX0_solveAll 17 = .ok (.iload_n 1, 1) := by decide +kernel
theorem dX0_solveAll_18 : decode cX0_solveAll 18 = .ok (.invokevirtual 64, 3) := by decide +kernel
theorem dX0_solveAll_21 : decode cX0_solveAll 21 = .ok (.iinc 1 1, 3) := by decide +kernel
theorem dX0_solveAll_24 : decode cX0_solveAll 24 = .ok (.goto (-22), 3) := by decide +kernel
theorem dX0_solveAll_27 : decode cX0_solveAll 27 = .ok (.aload_n 0, 1) := by decide +kernel
theorem dX0_solveAll_28 : decode cX0_solveAll 28 = .ok (.getfield 12, 3) := by decide +kernel
theorem dX0_solveAll_31 : decode cX0_solveAll 31 = .ok (.invokevirtual 68, 3) := by decide +kernel
theorem dX0_solveAll_34 : decode cX0_solveAll 34 = .ok (.return_, 1) := by decide +kernel
theorem dX0_reachEquation_0 : decode cX0_reachEquation 0 = .ok (.iload_n 3, 1) := by decide +kernel
theorem dX0_reachEquation_1 : decode cX0_reachEquation 1 = .ok (.iload_n 1, 1) := by decide +kernel
theorem dX0_reachEquation_2 : decode cX0_reachEquation 2 = .ok (.invokestatic 74, 3) := by decide +kernel
theorem dX0_reachEquation_5 : decode cX0_reachEquation 5 = .ok (.ifCond .eq 15, 3) := by decide +kernel
theorem dX0_reachEquation_8 : decode cX0_reachEquation 8 = .ok (.aload_n 0, 1) := by decide +kernel
theorem dX0_reachEquation_9 : decode cX0_reachEquation 9 = .ok (.getfield 12, 3) := by decide +kernel
theorem dX0_reachEquation_12 : decode cX0_reachEquation 12 = .ok (.iload_n 1, 1) := by decide +kernel
theorem dX0_reachEquation_13 : decode cX0_reachEquation 13 = .ok (.lconst 1, 1) := by decide +kernel
theorem dX0_reachEquation_14 : decode cX0_reachEquation 14 = .ok (.invokevirtual 78, 3) := by decide +kernel
theorem dX0_reachEquation_17 : decode cX0_reachEquation 17 = .ok (.goto 11, 3) := by decide +kernel
theorem dX0_reachEquation_20 : decode cX0_reachEquation 20 = .ok (.aload_n 0, 1) := by decide +kernel
theorem dX0_reachEquation_21 : decode cX0_reachEquation 21 = .ok (.iload_n 1, 1) := by decide +kernel
theorem dX0_reachEquation_22 : decode cX0_reachEquation 22 = .ok (.iload_n 2, 1) := by decide +kernel
theorem dX0_reachEquation_23 : decode cX0_reachEquation 23 = .ok (.iconst 1, 1) := by decide +kernel
theorem dX0_reachEquation_24 : decode cX0_reachEquation 24 = .ok (.iconst 1, 1) := by decide +kernel
theorem dX0_reachEquation_25 : decode cX0_reachEquation 25 = .ok (.invokevirtual 82, 3) := by decide +kernel
theorem dX0_reachEquation_28 : decode cX0_reachEquation 28 = .ok (.return_, 1) := by decide +kernel
theorem dX0_costEquation_0 : decode cX0_costEquation 0 = .ok (.aload_n 0, 1) := by decide +kernel
theorem dX0_costEquation_1 : decode cX0_costEquation 1 = .ok (.iload_n 1, 1) := by decide +kernel
theorem dX0_costEquation_2 : decode cX0_costEquation 2 = .ok (.iload_n 2, 1) := by decide +kernel
theorem dX0_costEquation_3 : decode cX0_costEquation 3 = .ok (.aload_n 0, 1) := by decide +kernel
theorem dX0_costEquation_4 : decode cX0_costEquation 4 = .ok (.getfield 18, 3) := by decide +kernel
theorem dX0_costEquation_7 : decode cX0_costEquation 7 = .ok (.getfield 86, 3) := by decide +kernel
theorem dX0_costEquation_10 : decode cX0_costEquation 10 = .ok (.aload_n 0, 1) := by decide +kernel
theorem dX0_costEquation_11 : decode cX0_costEquation 11 = .ok (.getfield 18, 3) := by decide +kernel
theorem dX0_costEquation_14 : decode cX0_costEquation 14 = .ok (.getfield 89, 3) := by decide +kernel
theorem dX0_costEquation_17 : decode cX0_costEquation 17 = .ok (.invokevirtual 82, 3) := by decide +kernel
theorem dX0_costEquation_20 : decode cX0_costEquation 20 = .ok (.aload_n 0, 1) := by decide +kernel
theorem dX0_costEquation_21 : decode cX0_costEquation 21 = .ok (.getfield 12, 3) := by decide +kernel
theorem dX0_costEquation_24 : decode cX0_costEquation 24 = .ok (.getfield 92, 3) := by decide +kernel
theorem dX0_costEquation_27 : decode cX0_costEquation 27 = .ok (.iload_n 1, 1) := by decide +kernel
theorem dX0_costEquation_28 : decode cX0_costEquation 28 = .ok (.aaload, 1) := by decide +kernel
theorem dX0_costEquation_29 : decode cX0_costEquation 29 = .ok (.bipush 7, 2) := by decide +kernel
theorem dX0_costEquation_31 : decode cX0_costEquation 31 = .ok (.aload_n 0, 1) := by decide +kernel
theorem dX0_costEquation_32 : decode cX0_costEquation 32 = .ok (.getfield 18, 3) := by decide +kernel
theorem dX0_costEquation_35 : decode cX0_costEquation 35 = .ok (.getfield 89, 3) := by decide +kernel
theorem dX0_costEquation_38 : decode cX0_costEquation 38 = .ok (.i2l, 1) := by decide +kernel
theorem dX0_costEquation_39 : decode cX0_costEquation 39 = .ok (.aload_n 0, 1) := by decide +kernel
theorem dX0_costEquation_40 : decode cX0_costEquation 40 = .ok (.getfield 18, 3) := by decide +kernel
theorem dX0_costEquation_43 : decode cX0_costEquation 43 = .ok (.getfield 96, 3) := by decide +kernel
theorem dX0_costEquation_46 : decode cX0_costEquation 46 = .ok (.iload_n 2, 1) := by decide +kernel
theorem dX0_costEquation_47 : decode cX0_costEquation 47 = .ok (.iaload, 1) := by decide +kernel
theorem dX0_costEquation_48 : decode cX0_costEquation 48 = .ok (.i2l, 1) := by decide +kernel
theorem dX0_costEquation_49 : decode cX0_costEquation 49 = .ok (.lmul, 1) := by decide +kernel
theorem dX0_costEquation_50 : decode cX0_costEquation 50 = .ok (.aload_n 0, 1) := by decide +kernel
theorem dX0_costEquation_51 : decode cX0_costEquation 51 = .ok (.getfield 18, 3) := by decide +kernel
theorem dX0_costEquation_54 : decode cX0_costEquation 54 = .ok (.iload_n 2, 1) := by decide +kernel
theorem dX0_costEquation_55 : decode cX0_costEquation 55 = .ok (.iload_n 3, 1) := by decide +kernel
theorem dX0_costEquation_56 : decode cX0_costEquation 56 = .ok (.invokevirtual 99, 3) := by decide +kernel
theorem dX0_costEquation_59 : decode cX0_costEquation 59 = .ok (.i2l, 1) := by decide +kernel
theorem dX0_costEquation_60 : decode cX0_costEquation 60 = .ok (.lmul, 1) := by decide +kernel
theorem dX0_costEquation_61 : decode cX0_costEquation 61 = .ok (.lastore, 1) := by decide +kernel
theorem dX0_costEquation_62 : decode cX0_costEquation 62 = .ok (.return_, 1) := by decide +kernel
theorem dX0_step_0 : decode cX0_step 0 = .ok (.aload_n 0, 1) := by decide +kernel
theorem dX0_step_1 : decode cX0_step 1 = .ok (.getfield 12, 3) := by decide +kernel
theorem dX0_step_4 : decode cX0_step 4 = .ok (.getfield 92, 3) := by decide +kernel
theorem dX0_step_7 : decode cX0_step 7 = .ok (.iload_n 1, 1) := by decide +kernel
theorem dX0_step_8 : decode cX0_step 8 = .ok (.aaload, 1) := by decide +kernel
theorem dX0_step_9 : decode cX0_step 9 = .ok (.astore 5, 2) := by decide +kernel
theorem dX0_step_11 : decode cX0_step 11 = .ok (.iconst 0, 1) := by decide +kernel
theorem dX0_step_12 : decode cX0_step 12 = .ok (.istore 6, 2) := by decide +kernel
theorem dX0_step_14 : decode cX0_step 14 = .ok (.iload 6, 2) := by decide +kernel
theorem dX0_step_16 : decode cX0_step 16 = .ok (.aload_n 0, 1) := by decide +kernel
theorem dX0_step_17 : decode cX0_step 17 = .ok (.getfield 18, 3) := by decide +kernel
theorem dX0_step_20 : decode cX0_step 20 = .ok (.getfield 22, 3) := by decide +kernel
theorem dX0_step_23 : decode cX0_step 23 = .ok (.if_icmp .ge 30, 3) := by decide +kernel
theorem dX0_step_26 : decode cX0_step 26 = .ok (.aload 5, 2) := by decide +kernel
theorem dX0_step_28 : decode cX0_step 28 = .ok (.iload 6, 2) := by decide +kernel
theorem dX0_step_30 : decode cX0_step 30 = .ok (.iload_n 3, 1) := by decide +kernel
theorem dX0_step_31 : decode cX0_step 31 = .ok (.ineg, 1) := by decide +kernel
theorem dX0_step_32 : decode cX0_step 32 = .ok (.aload_n 0, 1) := by decide +kernel
theorem dX0_step_33 : decode cX0_step 33 = .ok (.getfield 18, 3) := by decide +kernel
theorem dX0_step_36 : decode cX0_step 36 = .ok (.getfield 103, 3) := by decide +kernel
theorem dX0_step_39 : decode cX0_step 39 = .ok (.iload_n 2, 1) := by decide +kernel
theorem dX0_step_40 : decode cX0_step 40 = .ok (.aaload, 1) := by decide +kernel
theorem dX0_step_41 : decode cX0_step 41 = .ok (.iload 6, 2) := by decide +kernel
theorem dX0_step_43 : decode cX0_step 43 = .ok (.iaload, 1) := by decide +kernel
theorem dX0_step_44 : decode cX0_step 44 = .ok (.imul, 1) := by decide +kernel
theorem dX0_step_45 : decode cX0_step 45 = .ok (.i2l, 1) := by decide +kernel
theorem dX0_step_46 : decode cX0_step 46 = .ok (.lastore, 1) := by decide +kernel
theorem dX0_step_47 : decode cX0_step 47 = .ok (.iinc 6 1, 3) := by decide +kernel
theorem dX0_step_50 : decode cX0_step 50 = .ok (.goto (-36), 3) := by decide +kernel
theorem dX0_step_53 : decode cX0_step 53 = .ok (.aload 5, 2) := by decide +kernel
theorem dX0_step_55 : decode cX0_step 55 = .ok (.iload_n 1, 1) := by decide +kernel
theorem dX0_step_56 : decode cX0_step 56 = .ok (.dup2, 1) := by decide +kernel
theorem dX0_step_57 : decode cX0_step 57 = .ok (.laload, 1) := by decide +kernel
theorem dX0_step_58 : decode cX0_step 58 = .ok (.iload 4, 2) := by decide +kernel
theorem dX0_step_60 : decode cX0_step 60 = .ok (.aload_n 0, 1) := by decide +kernel
theorem dX0_step_61 : decode cX0_step 61 = .ok (.getfield 18, 3) := by decide +kernel
theorem dX0_step_64 : decode cX0_step 64 = .ok (.getfield 96, 3) := by decide +kernel
theorem dX0_step_67 : decode cX0_step 67 = .ok (.iload_n 2, 1) := by decide +kernel
theorem dX0_step_68 : decode cX0_step 68 = .ok (.iaload, 1) := by decide +kernel
theorem dX0_step_69 : decode cX0_step 69 = .ok (.imul, 1) := by decide +kernel
theorem dX0_step_70 : decode cX0_step 70 = .ok (.i2l, 1) := by decide +kernel
theorem dX0_step_71 : decode cX0_step 71 = .ok (.ladd, 1) := by decide +kernel
theorem dX0_step_72 : decode cX0_step 72 = .ok (.lastore, 1) := by decide +kernel
theorem dX0_step_73 : decode cX0_step 73 = .ok (.aload 5, 2) := by decide +kernel
theorem dX0_step_75 : decode cX0_step 75 = .ok (.bipush 7, 2) := by decide +kernel
theorem dX0_step_77 : decode cX0_step 77 = .ok (.lconst 0, 1) := by decide +kernel
theorem dX0_step_78 : decode cX0_step 78 = .ok (.lastore, 1) := by decide +kernel
theorem dX0_step_79 : decode cX0_step 79 = .ok (.return_, 1) := by decide +kernel
theorem dX0_expected_0 : decode cX0_expected 0 = .ok (.lconst 0, 1) := by decide +kernel
theorem dX0_expected_1 : decode cX0_expected 1 = .ok (.lstore_n 2, 1) := by decide +kernel
theorem dX0_expected_2 : decode cX0_expected 2 = .ok (.iconst 0, 1) := by decide +kernel
theorem dX0_expected_3 : decode cX0_expected 3 = .ok (.istore 4, 2) := by decide +kernel
theorem dX0_expected_5 : decode cX0_expected 5 = .ok (.iload 4, 2) := by decide +kernel
theorem dX0_expected_7 : decode cX0_expected 7 = .ok (.aload_n 0, 1) := by decide +kernel
theorem dX0_expected_8 : decode cX0_expected 8 = .ok (.getfield 18, 3) := by decide +kernel
theorem dX0_expected_11 : decode cX0_expected 11 = .ok (.getfield 22, 3) := by decide +kernel
theorem dX0_expected_14 : decode cX0_expected 14 = .ok (.if_icmp .ge 36, 3) := by decide +kernel
theorem dX0_expected_17 : decode cX0_expected 17 = .ok (.lload_n 2, 1) := by decide +kernel
theorem dX0_expected_18 : decode cX0_expected 18 = .ok (.aload_n 0, 1) := by decide +kernel
theorem dX0_expected_19 : decode cX0_expected 19 = .ok (.getfield 18, 3) := by decide +kernel
theorem dX0_expected_22 : decode cX0_expected 22 = .ok (.getfield 103, 3) := by decide +kernel
theorem dX0_expected_25 : decode cX0_expected 25 = .ok (.iload_n 1, 1) := by decide +kernel
theorem dX0_expected_26 : decode cX0_expected 26 = .ok (.aaload, 1) := by decide +kernel
theorem dX0_expected_27 : decode cX0_expected 27 = .ok (.iload 4, 2) := by decide +kernel
theorem dX0_expected_29 : decode cX0_expected 29 = .ok (.iaload, 1) := by decide +kernel
theorem dX0_expected_30 : decode cX0_expected 30 = .ok (.i2l, 1) := by decide +kernel
theorem dX0_expected_31 : decode cX0_expected 31 = .ok (.aload_n 0, 1) := by decide +kernel
theorem dX0_expected_32 : decode cX0_expected 32 = .ok (.getfield 12, 3) := by decide +kernel
theorem dX0_expected_35 : decode cX0_expected 35 = .ok (.getfield 107, 3) := by decide +kernel
theorem dX0_expected_38 : decode cX0_expected 38 = .ok (.iload 4, 2) := by decide +kernel
theorem dX0_expected_40 : decode cX0_expected 40 = .ok (.laload, 1) := by decide +kernel
theorem dX0_expected_41 : decode cX0_expected 41 = .ok (.lmul, 1) := by decide +kernel
theorem dX0_expected_42 : decode cX0_expected 42 = .ok (.ladd, 1) := by decide +kernel
theorem dX0_expected_43 : decode cX0_expected 43 = .ok (.lstore_n 2, 1) := by decide +kernel
theorem dX0_expected_44 : decode cX0_expected 44 = .ok (.iinc 4 1, 3) := by decide +kernel
theorem dX0_expected_47 : decode cX0_expected 47 = .ok (.goto (-42), 3) := by decide +kernel
theorem dX0_expected_50 : decode cX0_expected 50 = .ok (.lload_n 2, 1) := by decide +kernel
theorem dX0_expected_51 : decode cX0_expected 51 = .ok (.lreturn, 1) := by decide +kernel
theorem dX0_ahead_0 : decode cX0_ahead 0 = .ok (.iload_n 1, 1) := by decide +kernel
theorem dX0_ahead_1 : decode cX0_ahead 1 = .ok (.bipush 114, 2) := by decide +kernel
theorem dX0_ahead_3 : decode cX0_ahead 3 = .ok (.if_icmp .ne 9, 3) := by decide +kernel
theorem dX0_ahead_6 : decode cX0_ahead 6 = .ok (.aload_n 0, 1) := by decide +kernel
theorem dX0_ahead_7 : decode cX0_ahead 7 = .ok (.iload_n 2, 1) := by decide +kernel
theorem dX0_ahead_8 : decode cX0_ahead 8 = .ok (.invokevirtual 111, 3) := by decide +kernel
theorem dX0_ahead_11 : decode cX0_ahead 11 = .ok (.lreturn, 1) := by decide +kernel
theorem dX0_ahead_12 : decode cX0_ahead 12 = .ok (.aload_n 0, 1) := by decide +kernel
theorem dX0_ahead_13 : decode cX0_ahead 13 = .ok (.getfield 18, 3) := by decide +kernel
theorem dX0_ahead_16 : decode cX0_ahead 16 = .ok (.getfield 96, 3) := by decide +kernel
theorem dX0_ahead_19 : decode cX0_ahead 19 = .ok (.iload_n 2, 1) := by decide +kernel
theorem dX0_ahead_20 : decode cX0_ahead 20 = .ok (.iaload, 1) := by decide +kernel
theorem dX0_ahead_21 : decode cX0_ahead 21 = .ok (.i2l, 1) := by decide +kernel
theorem dX0_ahead_22 : decode cX0_ahead 22 = .ok (.aload_n 0, 1) := by decide +kernel
theorem dX0_ahead_23 : decode cX0_ahead 23 = .ok (.getfield 18, 3) := by decide +kernel
theorem dX0_ahead_26 : decode cX0_ahead 26 = .ok (.iload_n 2, 1) := by decide +kernel
theorem dX0_ahead_27 : decode cX0_ahead 27 = .ok (.iload_n 1, 1) := by decide +kernel
theorem dX0_ahead_28 : decode cX0_ahead 28 = .ok (.invokevirtual 99, 3) := by decide +kernel
theorem dX0_ahead_31 : decode cX0_ahead 31 = .ok (.i2l, 1) := by decide +kernel
theorem dX0_ahead_32 : decode cX0_ahead 32 = .ok (.lmul, 1) := by decide +kernel
theorem dX0_ahead_33 : decode cX0_ahead 33 = .ok (.lstore_n 3, 1) := by decide +kernel
theorem dX0_ahead_34 : decode cX0_ahead 34 = .ok (.aload_n 0, 1) := by decide +kernel
theorem dX0_ahead_35 : decode cX0_ahead 35 = .ok (.getfield 18, 3) := by decide +kernel
theorem dX0_ahead_38 : decode cX0_ahead 38 = .ok (.getfield 86, 3) := by decide +kernel
theorem dX0_ahead_41 : decode cX0_ahead 41 = .ok (.i2l, 1) := by decide +kernel
theorem dX0_ahead_42 : decode cX0_ahead 42 = .ok (.aload_n 0, 1) := by decide +kernel
theorem dX0_ahead_43 : decode cX0_ahead 43 = .ok (.iload_n 2, 1) := by decide +kernel
theorem dX0_ahead_44 : decode cX0_ahead 44 = .ok (.invokevirtual 111, 3) := by decide +kernel
theorem dX0_ahead_47 : decode cX0_ahead 47 = .ok (.lmul, 1) := by decide +kernel
theorem dX0_ahead_48 : decode cX0_ahead 48 = .ok (.aload_n 0, 1) := by decide +kernel
theorem dX0_ahead_49 : decode cX0_ahead 49 = .ok (.getfield 18, 3) := by decide +kernel
theorem dX0_ahead_52 : decode cX0_ahead 52 = .ok (.getfield 89, 3) := by decide +kernel
theorem dX0_ahead_55 : decode cX0_ahead 55 = .ok (.i2l, 1) := by decide +kernel
theorem dX0_ahead_56 : decode cX0_ahead 56 = .ok (.lload_n 3, 1) := by decide +kernel
theorem dX0_ahead_57 : decode cX0_ahead 57 = .ok (.lmul, 1) := by decide +kernel
theorem dX0_ahead_58 : decode cX0_ahead 58 = .ok (.aload_n 0, 1) := by decide +kernel
theorem dX0_ahead_59 : decode cX0_ahead 59 = .ok (.getfield 12, 3) := by decide +kernel
theorem dX0_ahead_62 : decode cX0_ahead 62 = .ok (.getfield 115, 3) := by decide +kernel
theorem dX0_ahead_65 : decode cX0_ahead 65 = .ok (.lmul, 1) := by decide +kernel
theorem dX0_ahead_66 : decode cX0_ahead 66 = .ok (.ladd, 1) := by decide +kernel
theorem dX0_ahead_67 : decode cX0_ahead 67 = .ok (.lreturn, 1) := by decide +kernel
theorem dX0_isGood_0 : decode cX0_isGood 0 = .ok (.iload_n 1, 1) := by decide +kernel
theorem dX0_isGood_1 : decode cX0_isGood 1 = .ok (.bipush 114, 2) := by decide +kernel
theorem dX0_isGood_3 : decode cX0_isGood 3 = .ok (.if_icmp .ne 16, 3) := by decide +kernel
theorem dX0_isGood_6 : decode cX0_isGood 6 = .ok (.aload_n 0, 1) := by decide +kernel
theorem dX0_isGood_7 : decode cX0_isGood 7 = .ok (.getfield 18, 3) := by decide +kernel
theorem dX0_isGood_10 : decode cX0_isGood 10 = .ok (.iload_n 2, 1) := by decide +kernel
theorem dX0_isGood_11 : decode cX0_isGood 11 = .ok (.invokevirtual 119, 3) := by decide +kernel
theorem dX0_isGood_14 : decode cX0_isGood 14 = .ok (.ifCond .eq 5, 3) := by decide +kernel
theorem dX0_isGood_17 : decode cX0_isGood 17 = .ok (.iconst 1, 1) := by decide +kernel
theorem dX0_isGood_18 : decode cX0_isGood 18 = .ok (.ireturn, 1) := by decide +kernel
theorem dX0_isGood_19 : decode cX0_isGood 19 = .ok (.aload_n 0, 1) := by decide +kernel
theorem dX0_isGood_20 : decode cX0_isGood 20 = .ok (.getfield 12, 3) := by decide +kernel
theorem dX0_isGood_23 : decode cX0_isGood 23 = .ok (.getfield 107, 3) := by decide +kernel
theorem dX0_isGood_26 : decode cX0_isGood 26 = .ok (.iload_n 2, 1) := by decide +kernel
theorem dX0_isGood_27 : decode cX0_isGood 27 = .ok (.laload, 1) := by decide +kernel
theorem dX0_isGood_28 : decode cX0_isGood 28 = .ok (.aload_n 0, 1) := by decide +kernel
theorem dX0_isGood_29 : decode cX0_isGood 29 = .ok (.getfield 18, 3) := by decide +kernel
theorem dX0_isGood_32 : decode cX0_isGood 32 = .ok (.getfield 96, 3) := by decide +kernel
theorem dX0_isGood_35 : decode cX0_isGood 35 = .ok (.iload_n 3, 1) := by decide +kernel
theorem dX0_isGood_36 : decode cX0_isGood 36 = .ok (.iaload, 1) := by decide +kernel
theorem dX0_isGood_37 : decode cX0_isGood 37 = .ok (.i2l, 1) := by decide +kernel
theorem dX0_isGood_38 : decode cX0_isGood 38 = .ok (.lmul, 1) := by decide +kernel
theorem dX0_isGood_39 : decode cX0_isGood 39 = .ok (.lstore 4, 2) := by decide +kernel
theorem dX0_isGood_41 : decode cX0_isGood 41 = .ok (.iload_n 1, 1) := by decide +kernel
theorem dX0_isGood_42 : decode cX0_isGood 42 = .ok (.bipush 114, 2) := by decide +kernel
theorem dX0_isGood_44 : decode cX0_isGood 44 = .ok (.if_icmp .ne 8, 3) := by decide +kernel
theorem dX0_isGood_47 : decode cX0_isGood 47 = .ok (.lload 4, 2) := by decide +kernel
theorem dX0_isGood_49 : decode cX0_isGood 49 = .ok (.goto 14, 3) := by decide +kernel
theorem dX0_isGood_52 : decode cX0_isGood 52 = .ok (.lload 4, 2) := by decide +kernel
theorem dX0_isGood_54 : decode cX0_isGood 54 = .ok (.aload_n 0, 1) := by decide +kernel
theorem dX0_isGood_55 : decode cX0_isGood 55 = .ok (.getfield 18, 3) := by decide +kernel
theorem dX0_isGood_58 : decode cX0_isGood 58 = .ok (.getfield 89, 3) := by decide +kernel
theorem dX0_isGood_61 : decode cX0_isGood 61 = .ok (.i2l, 1) := by decide +kernel
theorem dX0_isGood_62 : decode cX0_isGood 62 = .ok (.lmul, 1) := by decide +kernel
theorem dX0_isGood_63 : decode cX0_isGood 63 = .ok (.aload_n 0, 1) := by decide +kernel
theorem dX0_isGood_64 : decode cX0_isGood 64 = .ok (.iload_n 1, 1) := by decide +kernel
theorem dX0_isGood_65 : decode cX0_isGood 65 = .ok (.iload_n 3, 1) := by decide +kernel
theorem dX0_isGood_66 : decode cX0_isGood 66 = .ok (.invokevirtual 123, 3) := by decide +kernel
theorem dX0_isGood_69 : decode cX0_isGood 69 = .ok (.lcmp, 1) := by decide +kernel
theorem dX0_isGood_70 : decode cX0_isGood 70 = .ok (.ifCond .ne 7, 3) := by decide +kernel
theorem dX0_isGood_73 : decode cX0_isGood 73 = .ok (.iconst 1, 1) := by decide +kernel
theorem dX0_isGood_74 : decode cX0_isGood 74 = .ok (.goto 4, 3) := by decide +kernel
theorem dX0_isGood_77 : decode cX0_isGood 77 = .ok (.iconst 0, 1) := by decide +kernel
theorem dX0_isGood_78 : decode cX0_isGood 78 = .ok (.ireturn, 1) := by decide +kernel
theorem dX0_isNought_0 : decode cX0_isNought 0 = .ok (.aload_n 0, 1) := by decide +kernel
theorem dX0_isNought_1 : decode cX0_isNought 1 = .ok (.getfield 12, 3) := by decide +kernel
theorem dX0_isNought_4 : decode cX0_isNought 4 = .ok (.getfield 107, 3) := by decide +kernel
theorem dX0_isNought_7 : decode cX0_isNought 7 = .ok (.iload_n 1, 1) := by decide +kernel
theorem dX0_isNought_8 : decode cX0_isNought 8 = .ok (.laload, 1) := by decide +kernel
theorem dX0_isNought_9 : decode cX0_isNought 9 = .ok (.lconst 0, 1) := by decide +kernel
theorem dX0_isNought_10 : decode cX0_isNought 10 = .ok (.lcmp, 1) := by decide +kernel
theorem dX0_isNought_11 : decode cX0_isNought 11 = .ok (.ifCond .ne 7, 3) := by decide +kernel
theorem dX0_isNought_14 : decode cX0_isNought 14 = .ok (.iconst 1, 1) := by decide +kernel
theorem dX0_isNought_15 : decode cX0_isNought 15 = .ok (.goto 4, 3) := by decide +kernel
theorem dX0_isNought_18 : decode cX0_isNought 18 = .ok (.iconst 0, 1) := by decide +kernel
theorem dX0_isNought_19 : decode cX0_isNought 19 = .ok (.ireturn, 1) := by decide +kernel
theorem dX0_toldAbove_0 : decode cX0_toldAbove 0 = .ok (.aload_n 0, 1) := by decide +kernel
theorem dX0_toldAbove_1 : decode cX0_toldAbove 1 = .ok (.getfield 12, 3) := by decide +kernel
theorem dX0_toldAbove_4 : decode cX0_toldAbove 4 = .ok (.getfield 107, 3) := by decide +kernel
theorem dX0_toldAbove_7 : decode cX0_toldAbove 7 = .ok (.iload_n 1, 1) := by decide +kernel
theorem dX0_toldAbove_8 : decode cX0_toldAbove 8 = .ok (.laload, 1) := by decide +kernel
theorem dX0_toldAbove_9 : decode cX0_toldAbove 9 = .ok (.aload_n 0, 1) := by decide +kernel
theorem dX0_toldAbove_10 : decode cX0_toldAbove 10 = .ok (.getfield 12, 3) := by decide +kernel
theorem dX0_toldAbove_13 : decode cX0_toldAbove 13 = .ok (.getfield 115, 3) := by decide +kernel
theorem dX0_toldAbove_16 : decode cX0_toldAbove 16 = .ok (.invokestatic 127, 3) := by decide +kernel
theorem dX0_toldAbove_19 : decode cX0_toldAbove 19 = .ok (.lreturn, 1) := by decide +kernel
theorem dX0_toldBelow_0 : decode cX0_toldBelow 0 = .ok (.aload_n 0, 1) := by decide +kernel
theorem dX0_toldBelow_1 : decode cX0_toldBelow 1 = .ok (.getfield 12, 3) := by decide +kernel
theorem dX0_toldBelow_4 : decode cX0_toldBelow 4 = .ok (.getfield 107, 3) := by decide +kernel
theorem dX0_toldBelow_7 : decode cX0_toldBelow 7 = .ok (.iload_n 1, 1) := by decide +kernel
theorem dX0_toldBelow_8 : decode cX0_toldBelow 8 = .ok (.laload, 1) := by decide +kernel
theorem dX0_toldBelow_9 : decode cX0_toldBelow 9 = .ok (.aload_n 0, 1) := by decide +kernel
theorem dX0_toldBelow_10 : decode cX0_toldBelow 10 = .ok (.getfield 12, 3) := by decide +kernel
theorem dX0_toldBelow_13 : decode cX0_toldBelow 13 = .ok (.getfield 115, 3) := by decide +kernel
theorem dX0_toldBelow_16 : decode cX0_toldBelow 16 = .ok (.invokestatic 131, 3) := by decide +kernel
theorem dX0_toldBelow_19 : decode cX0_toldBelow 19 = .ok (.lreturn, 1) := by decide +kernel
theorem dX0_copyTo_0 : decode cX0_copyTo 0 = .ok (.iconst 0, 1) := by decide +kernel
theorem dX0_copyTo_1 : decode cX0_copyTo 1 = .ok (.istore_n 2, 1) := by decide +kernel
theorem dX0_copyTo_2 : decode cX0_copyTo 2 = .ok (.iload_n 2, 1) := by decide +kernel
theorem dX0_copyTo_3 : decode cX0_copyTo 3 = .ok (.aload_n 0, 1) := by decide +kernel
theorem dX0_copyTo_4 : decode cX0_copyTo 4 = .ok (.getfield 18, 3) := by decide +kernel
theorem dX0_copyTo_7 : decode cX0_copyTo 7 = .ok (.getfield 22, 3) := by decide +kernel
theorem dX0_copyTo_10 : decode cX0_copyTo 10 = .ok (.if_icmp .ge 30, 3) := by decide +kernel
theorem dX0_copyTo_13 : decode cX0_copyTo 13 = .ok (.aload_n 1, 1) := by decide +kernel
theorem dX0_copyTo_14 : decode cX0_copyTo 14 = .ok (.iload_n 2, 1) := by decide +kernel
theorem dX0_copyTo_15 : decode cX0_copyTo 15 = .ok (.aload_n 0, 1) := by decide +kernel
theorem dX0_copyTo_16 : decode cX0_copyTo 16 = .ok (.getfield 12, 3) := by decide +kernel
theorem dX0_copyTo_19 : decode cX0_copyTo 19 = .ok (.getfield 107, 3) := by decide +kernel
theorem dX0_copyTo_22 : decode cX0_copyTo 22 = .ok (.iload_n 2, 1) := by decide +kernel
theorem dX0_copyTo_23 : decode cX0_copyTo 23 = .ok (.laload, 1) := by decide +kernel
theorem dX0_copyTo_24 : decode cX0_copyTo 24 = .ok (.aload_n 0, 1) := by decide +kernel
theorem dX0_copyTo_25 : decode cX0_copyTo 25 = .ok (.getfield 12, 3) := by decide +kernel
theorem dX0_copyTo_28 : decode cX0_copyTo 28 = .ok (.getfield 115, 3) := by decide +kernel
theorem dX0_copyTo_31 : decode cX0_copyTo 31 = .ok (.invokevirtual 134, 3) := by decide +kernel
theorem dX0_copyTo_34 : decode cX0_copyTo 34 = .ok (.iinc 2 1, 3) := by decide +kernel
theorem dX0_copyTo_37 : decode cX0_copyTo 37 = .ok (.goto (-35), 3) := by decide +kernel
theorem dX0_copyTo_40 : decode cX0_copyTo 40 = .ok (.return_, 1) := by decide +kernel
theorem dX1_init_0 : decode cX1_init 0 = .ok (.aload_n 0, 1) := by decide +kernel
theorem dX1_init_1 : decode cX1_init 1 = .ok (.invokespecial 3, 3) := by decide +kernel
theorem dX1_init_4 : decode cX1_init 4 = .ok (.aload_n 0, 1) := by decide +kernel
theorem dX1_init_5 : decode cX1_init 5 = .ok (.bipush 7, 2) := by decide +kernel
theorem dX1_init_7 : decode cX1_init 7 = .ok (.newarray .int, 2) := by decide +kernel
theorem dX1_init_9 : decode cX1_init 9 = .ok (.putfield 9, 3) := by decide +kernel
theorem dX1_init_12 : decode cX1_init 12 = .ok (.aload_n 0, 1) := by decide +kernel
theorem dX1_init_13 : decode cX1_init 13 = .ok (.bipush 7, 2) := by decide +kernel
theorem dX1_init_15 : decode cX1_init 15 = .ok (.bipush 8, 2) := by decide +kernel
theorem dX1_init_17 : decode cX1_init 17 = .ok (.multianewarray 15 2, 4) := by decide +kernel
theorem dX1_init_21 : decode cX1_init 21 = .ok (.putfield 17, 3) := by decide +kernel
theorem dX1_init_24 : decode cX1_init 24 = .ok (.aload_n 0, 1) := by decide +kernel
theorem dX1_init_25 : decode cX1_init 25 = .ok (.bipush 7, 2) := by decide +kernel
theorem dX1_init_27 : decode cX1_init 27 = .ok (.newarray .long, 2) := by decide +kernel
theorem dX1_init_29 : decode cX1_init 29 = .ok (.putfield 20, 3) := by decide +kernel
theorem dX1_init_32 : decode cX1_init 32 = .ok (.aload_n 0, 1) := by decide +kernel
theorem dX1_init_33 : decode cX1_init 33 = .ok (.lconst 1, 1) := by decide +kernel
theorem dX1_init_34 : decode cX1_init 34 = .ok (.putfield 24, 3) := by decide +kernel
theorem dX1_init_37 : decode cX1_init 37 = .ok (.return_, 1) := by decide +kernel
theorem dX1_fix_0 : decode cX1_fix 0 = .ok (.aload_n 0, 1) := by decide +kernel
theorem dX1_fix_1 : decode cX1_fix 1 = .ok (.getfield 17, 3) := by decide +kernel
theorem dX1_fix_4 : decode cX1_fix 4 = .ok (.iload_n 1, 1) := by decide +kernel
theorem dX1_fix_5 : decode cX1_fix 5 = .ok (.aaload, 1) := by decide +kernel
theorem dX1_fix_6 : decode cX1_fix 6 = .ok (.astore 4, 2) := by decide +kernel
theorem dX1_fix_8 : decode cX1_fix 8 = .ok (.iconst 0, 1) := by decide +kernel
theorem dX1_fix_9 : decode cX1_fix 9 = .ok (.istore 5, 2) := by decide +kernel
theorem dX1_fix_11 : decode cX1_fix 11 = .ok (.iload 5, 2) := by decide +kernel
theorem dX1_fix_13 : decode cX1_fix 13 = .ok (.bipush 7, 2) := by decide +kernel
theorem dX1_fix_15 : decode cX1_fix 15 = .ok (.if_icmp .ge 15, 3) := by decide +kernel
theorem dX1_fix_18 : decode cX1_fix 18 = .ok (.aload 4, 2) := by decide +kernel
theorem dX1_fix_20 : decode cX1_fix 20 = .ok (.iload 5, 2) := by decide +kernel
theorem dX1_fix_22 : decode cX1_fix 22 = .ok (.lconst 0, 1) := by decide +kernel
theorem dX1_fix_23 : decode cX1_fix 23 = .ok (.lastore, 1) := by decide +kernel
theorem dX1_fix_24 : decode cX1_fix 24 = .ok (.iinc 5 1, 3) := by decide +kernel
theorem dX1_fix_27 : decode cX1_fix 27 = .ok (.goto (-16), 3) := by decide +kernel
theorem dX1_fix_30 : decode cX1_fix 30 = .ok (.aload 4, 2) := by decide +kernel
theorem dX1_fix_32 : decode cX1_fix 32 = .ok (.iload_n 1, 1) := by decide +kernel
theorem dX1_fix_33 : decode cX1_fix 33 = .ok (.lconst 1, 1) := by decide +kernel
theorem dX1_fix_34 : decode cX1_fix 34 = .ok (.lastore, 1) := by decide +kernel
theorem dX1_fix_35 : decode cX1_fix 35 = .ok (.aload 4, 2) := by decide +kernel
theorem dX1_fix_37 : decode cX1_fix 37 = .ok (.bipush 7, 2) := by decide +kernel
theorem dX1_fix_39 : decode cX1_fix 39 = .ok (.lload_n 2, 1) := by decide +kernel
theorem dX1_fix_40 : decode cX1_fix 40 = .ok (.lastore, 1) := by decide +kernel
theorem dX1_fix_41 : decode cX1_fix 41 = .ok (.return_, 1) := by decide +kernel
theorem dX1_reduce_0 : decode cX1_reduce 0 = .ok (.aload_n 0, 1) := by decide +kernel
theorem dX1_reduce_1 : decode cX1_reduce 1 = .ok (.getfield 9, 3) := by decide +kernel
theorem dX1_reduce_4 : decode cX1_reduce 4 = .ok (.iload_n 1, 1) := by decide +kernel
theorem dX1_reduce_5 : decode cX1_reduce 5 = .ok (.iaload, 1) := by decide +kernel
theorem dX1_reduce_6 : decode cX1_reduce 6 = .ok (.istore_n 2, 1) := by decide +kernel
theorem dX1_reduce_7 : decode cX1_reduce 7 = .ok (.aload_n 0, 1) := by decide +kernel
theorem dX1_reduce_8 : decode cX1_reduce 8 = .ok (.getfield 17, 3) := by decide +kernel
theorem dX1_reduce_11 : decode cX1_reduce 11 = .ok (.iload_n 2, 1) := by decide +kernel
theorem dX1_reduce_12 : decode cX1_reduce 12 = .ok (.aaload, 1) := by decide +kernel
theorem dX1_reduce_13 : decode cX1_reduce 13 = .ok (.astore_n 3, 1) := by decide +kernel
theorem dX1_reduce_14 : decode cX1_reduce 14 = .ok (.lconst 1, 1) := by decide +kernel
theorem dX1_reduce_15 : decode cX1_reduce 15 = .ok (.lstore 4, 2) := by decide +kernel
theorem dX1_reduce_17 : decode cX1_reduce 17 = .ok (.iconst 0, 1) := by decide +kernel
theorem dX1_reduce_18 : decode cX1_reduce 18 = .ok (.istore 6, 2) := by decide +kernel
theorem dX1_reduce_20 : decode cX1_reduce 20 = .ok (.iload 6, 2) := by decide +kernel
theorem dX1_reduce_22 : decode cX1_reduce 22 = .ok (.iload_n 1, 1) := by decide +kernel
theorem dX1_reduce_23 : decode cX1_reduce 23 = .ok (.if_icmp .ge 124, 3) := by decide +kernel
theorem dX1_reduce_26 : decode cX1_reduce 26 = .ok (.aload_n 0, 1) := by decide +kernel
theorem dX1_reduce_27 : decode cX1_reduce 27 = .ok (.getfield 9, 3) := by decide +kernel
theorem dX1_reduce_30 : decode cX1_reduce 30 = .ok (.iload 6, 2) := by decide +kernel
theorem dX1_reduce_32 : decode cX1_reduce 32 = .ok (.iaload, 1) := by decide +kernel
theorem dX1_reduce_33 : decode cX1_reduce 33 = .ok (.istore 7, 2) := by decide +kernel
theorem dX1_reduce_35 : decode cX1_reduce 35 = .ok (.aload_n 0, 1) := by decide +kernel
theorem dX1_reduce_36 : decode cX1_reduce 36 = .ok (.getfield 17, 3) := by decide +kernel
theorem dX1_reduce_39 : decode cX1_reduce 39 = .ok (.iload 7, 2) := by decide +kernel
theorem dX1_reduce_41 : decode cX1_reduce 41 = .ok (.aaload, 1) := by decide +kernel
theorem dX1_reduce_42 : decode cX1_reduce 42 = .ok (.astore 8, 2) := by decide +kernel
theorem dX1_reduce_44 : decode cX1_reduce 44 = .ok (.aload 8, 2) := by decide +kernel
theorem dX1_reduce_46 : decode cX1_reduce 46 = .ok (.iload 7, 2) := by decide +kernel
theorem dX1_reduce_48 : decode cX1_reduce 48 = .ok (.laload, 1) := by decide +kernel
theorem dX1_reduce_49 : decode cX1_reduce 49 = .ok (.lstore 9, 2) := by decide +kernel
theorem dX1_reduce_51 : decode cX1_reduce 51 = .ok (.aload_n 3, 1) := by decide +kernel
theorem dX1_reduce_52 : decode cX1_reduce 52 = .ok (.iload 7, 2) := by decide +kernel
theorem dX1_reduce_54 : decode cX1_reduce 54 = .ok (.laload, 1) := by decide +kernel
theorem dX1_reduce_55 : decode cX1_reduce 55 = .ok (.lstore 11, 2) := by decide +kernel
theorem dX1_reduce_57 : decode cX1_reduce 57 = .ok (.iload 6, 2) := by decide +kernel
theorem dX1_reduce_59 : decode cX1_reduce 59 = .ok (.iconst 1, 1) := by decide +kernel
theorem dX1_reduce_60 : decode cX1_reduce 60 = .ok (.iadd, 1) := by decide +kernel
theorem dX1_reduce_61 : decode cX1_reduce 61 = .ok (.istore 13, 2) := by decide +kernel
theorem dX1_reduce_63 : decode cX1_reduce 63 = .ok (.iload 13, 2) := by decide +kernel
theorem dX1_reduce_65 : decode cX1_reduce 65 = .ok (.aload_n 0, 1) := by decide +kernel
theorem dX1_reduce_66 : decode cX1_reduce 66 = .ok (.getfield 28, 3) := by decide +kernel
theorem dX1_reduce_69 : decode cX1_reduce 69 = .ok (.if_icmp .ge 43, 3) := by decide +kernel
theorem dX1_reduce_72 : decode cX1_reduce 72 = .ok (.aload_n 0, 1) := by decide +kernel
theorem dX1_reduce_73 : decode cX1_reduce 73 = .ok (.getfield 9, 3) := by decide +kernel
theorem dX1_reduce_76 : decode cX1_reduce 76 = .ok (.iload 13, 2) := by decide +kernel
theorem dX1_reduce_78 : decode cX1_reduce 78 = .ok (.iaload, 1) := by decide +kernel
theorem dX1_reduce_79 : decode cX1_reduce 79 = .ok (.istore 14, 2) := by decide +kernel
theorem dX1_reduce_81 : decode cX1_reduce 81 = .ok (.aload_n 3, 1) := by decide +kernel
theorem dX1_reduce_82 : decode cX1_reduce 82 = .ok (.iload 14, 2) := by decide +kernel
theorem dX1_reduce_84 : decode cX1_reduce 84 = .ok (.lload 9, 2) := by decide +kernel
theorem dX1_reduce_86 : decode cX1_reduce 86 = .ok (.aload_n 3, 1) := by decide +kernel
theorem dX1_reduce_87 : decode cX1_reduce 87 = .ok (.iload 14, 2) := by decide +kernel
theorem dX1_reduce_89 : decode cX1_reduce 89 = .ok (.laload, 1) := by decide +kernel
theorem dX1_reduce_90 : decode cX1_reduce 90 = .ok (.lmul, 1) := by decide +kernel
theorem dX1_reduce_91 : decode cX1_reduce 91 = .ok (.lload 11, 2) := by decide +kernel
theorem dX1_reduce_93 : decode cX1_reduce 93 = .ok (.aload 8, 2) := by decide +kernel
theorem dX1_reduce_95 : decode cX1_reduce 95 = .ok (.iload 14, 2) := by decide +kernel
theorem dX1_reduce_97 : decode cX1_reduce 97 = .ok (.laload, 1) := by decide +kernel
theorem dX1_reduce_98 : decode cX1_reduce 98 = .ok (.lmul, 1) := by decide +kernel
theorem dX1_reduce_99 : decode cX1_reduce 99 = .ok (.lsub, 1) := by decide +kernel
theorem dX1_reduce_100 : decode cX1_reduce 100 = .ok (.lload 4, 2) := by decide +kernel
theorem dX1_reduce_102 : decode cX1_reduce 102 = .ok (.invokestatic 32, 3) := by decide +kernel
theorem dX1_reduce_105 : decode cX1_reduce 105 = .ok (.lastore, 1) := by decide +kernel
theorem dX1_reduce_106 : decode cX1_reduce 106 = .ok (.iinc 13 1, 3) := by decide +kernel
theorem dX1_reduce_109 : decode cX1_reduce 109 = .ok (.goto (-46), 3) := by decide +kernel
theorem dX1_reduce_112 : decode cX1_reduce 112 = .ok (.aload_n 3, 1) := by decide +kernel
theorem dX1_reduce_113 : decode cX1_reduce 113 = .ok (.bipush 7, 2) := by decide +kernel
theorem dX1_reduce_115 : decode cX1_reduce 115 = .ok (.lload 9, 2) := by decide +kernel
theorem dX1_reduce_117 : decode cX1_reduce 117 = .ok (.aload_n 3, 1) := by decide +kernel
theorem dX1_reduce_118 : decode cX1_reduce 118 = .ok (.bipush 7, 2) := by decide +kernel
theorem dX1_reduce_120 : decode cX1_reduce 120 = .ok (.laload, 1) := by decide +kernel
theorem dX1_reduce_121 : decode cX1_reduce 121 = .ok (.lmul, 1) := by decide +kernel
theorem dX1_reduce_122 : decode cX1_reduce 122 = .ok (.lload 11, 2) := by decide +kernel
theorem dX1_reduce_124 : decode cX1_reduce 124 = .ok (.aload 8, 2) := by decide +kernel
theorem dX1_reduce_126 : decode cX1_reduce 126 = .ok (.bipush 7, 2) := by decide +kernel
theorem dX1_reduce_128 : decode cX1_reduce 128 = .ok (.laload, 1) := by decide +kernel
theorem dX1_reduce_129 : decode cX1_reduce 129 = .ok (.lmul, 1) := by decide +kernel
theorem dX1_reduce_130 : decode cX1_reduce 130 = .ok (.lsub, 1) := by decide +kernel
theorem dX1_reduce_131 : decode cX1_reduce 131 = .ok (.lload 4, 2) := by decide +kernel
theorem dX1_reduce_133 : decode cX1_reduce 133 = .ok (.invokestatic 32, 3) := by decide +kernel
theorem dX1_reduce_136 : decode cX1_reduce 136 = .ok (.lastore, 1) := by decide +kernel
theorem dX1_reduce_137 : decode cX1_reduce 137 = .ok (.lload 9, 2) := by decide +kernel
theorem dX1_reduce_139 : decode cX1_reduce 139 = .ok (.lstore 4, 2) := by decide +kernel
theorem dX1_reduce_141 : decode cX1_reduce 141 = .ok (.iinc 6 1, 3) := by decide +kernel
theorem dX1_reduce_144 : decode cX1_reduce 144 = .ok (.goto (-124), 3) := by decide +kernel
theorem dX1_reduce_147 : decode cX1_reduce 147 = .ok (.aload_n 3, 1) := by decide +kernel
theorem dX1_reduce_148 : decode cX1_reduce 148 = .ok (.iload_n 2, 1) := by decide +kernel
theorem dX1_reduce_149 : decode cX1_reduce 149 = .ok (.laload, 1) := by decide +kernel
theorem dX1_reduce_150 : decode cX1_reduce 150 = .ok (.lconst 0, 1) := by decide +kernel
theorem dX1_reduce_151 : decode cX1_reduce 151 = .ok (.lcmp, 1) := by decide +kernel
theorem dX1_reduce_152 : decode cX1_reduce 152 = .ok (.ifCond .ne 8, 3) := by decide +kernel
theorem dX1_reduce_155 : decode cX1_reduce 155 = .ok (.aload_n 3, 1) := by decide +kernel
theorem dX1_reduce_156 : decode cX1_reduce 156 = .ok (.iload_n 2, 1) := by decide +kernel
theorem dX1_reduce_157 : decode cX1_reduce 157 = .ok (.lload 4, 2) := by decide +kernel
theorem dX1_reduce_159 : decode cX1_reduce 159 = .ok (.lastore, 1) := by decide +kernel
theorem dX1_reduce_160 : decode cX1_reduce 160 = .ok (.return_, 1) := by decide +kernel
theorem dX1_settle_0 : decode cX1_settle 0 = .ok (.aload_n 0, 1) := by decide +kernel
theorem dX1_settle_1 : decode cX1_settle 1 = .ok (.getfield 28, 3) := by decide +kernel
theorem dX1_settle_4 : decode cX1_settle 4 = .ok (.iconst 1, 1) := by decide +kernel
theorem dX1_settle_5 : decode cX1_settle 5 = .ok (.if_icmp .ge 4, 3) := by decide +kernel
theorem dX1_settle_8 : decode cX1_settle 8 = .ok (.return_, 1) := by decide +kernel
theorem dX1_settle_9 : decode cX1_settle 9 = .ok (.aload_n 0, 1) := by decide +kernel
theorem dX1_settle_10 : decode cX1_settle 10 = .ok (.getfield 9, 3) := by decide +kernel
theorem dX1_settle_13 : decode cX1_settle 13 = .ok (.aload_n 0, 1) := by decide +kernel
theorem dX1_settle_14 : decode cX1_settle 14 = .ok (.getfield 28, 3) := by decide +kernel
theorem dX1_settle_17 : decode cX1_settle 17 = .ok (.iconst 1, 1) := by decide +kernel
theorem dX1_settle_18 : decode cX1_settle 18 = .ok (.isub, 1) := by decide +kernel
theorem dX1_settle_19 : decode cX1_settle 19 = .ok (.iaload, 1) := by decide +kernel
theorem dX1_settle_20 : decode cX1_settle 20 = .ok (.istore_n 1, 1) := by decide +kernel
theorem dX1_settle_21 : decode cX1_settle 21 = .ok (.aload_n 0, 1) := by decide +kernel
theorem dX1_settle_22 : decode cX1_settle 22 = .ok (.aload_n 0, 1) := by decide +kernel
theorem dX1_settle_23 : decode cX1_settle 23 = .ok (.getfield 17, 3) := by decide +kernel
theorem dX1_settle_26 : decode cX1_settle 26 = .ok (.iload_n 1, 1) := by decide +kernel
theorem dX1_settle_27 : decode cX1_settle 27 = .ok (.aaload, 1) := by decide +kernel
theorem dX1_settle_28 : decode cX1_settle 28 = .ok (.iload_n 1, 1) := by decide +kernel
theorem dX1_settle_29 : decode cX1_settle 29 = .ok (.laload, 1) := by decide +kernel
theorem dX1_settle_30 : decode cX1_settle 30 = .ok (.putfield 24, 3) := by decide +kernel
theorem dX1_settle_33 : decode cX1_settle 33 = .ok (.aload_n 0, 1) := by decide +kernel
theorem dX1_settle_34 : decode cX1_settle 34 = .ok (.getfield 20, 3) := by decide +kernel
theorem dX1_settle_37 : decode cX1_settle 37 = .ok (.iload_n 1, 1) := by decide +kernel
theorem dX1_settle_38 : decode cX1_settle 38 = .ok (.aload_n 0, 1) := by decide +kernel
theorem dX1_settle_39 : decode cX1_settle 39 = .ok (.getfield 17, 3) := by decide +kernel
theorem dX1_settle_42 : decode cX1_settle 42 = .ok (.iload_n 1, 1) := by decide +kernel
theorem dX1_settle_43 : decode cX1_settle 43 = .ok (.aaload, 1) := by decide +kernel
theorem dX1_settle_44 : decode cX1_settle 44 = .ok (.bipush 7, 2) := by decide +kernel
theorem dX1_settle_46 : decode cX1_settle 46 = .ok (.laload, 1) := by decide +kernel
theorem dX1_settle_47 : decode cX1_settle 47 = .ok (.lastore, 1) := by decide +kernel
theorem dX1_settle_48 : decode cX1_settle 48 = .ok (.aload_n 0, 1) := by decide +kernel
theorem dX1_settle_49 : decode cX1_settle 49 = .ok (.getfield 28, 3) := by decide +kernel
theorem dX1_settle_52 : decode cX1_settle 52 = .ok (.iconst 2, 1) := by decide +kernel
theorem dX1_settle_53 : decode cX1_settle 53 = .ok (.isub, 1) := by decide +kernel
theorem dX1_settle_54 : decode cX1_settle 54 = .ok (.istore_n 2, 1) := by decide +kernel
theorem dX1_settle_55 : decode cX1_settle 55 = .ok (.iload_n 2, 1) := by decide +kernel
theorem dX1_settle_56 : decode cX1_settle 56 = .ok (.ifCond .lt 99, 3) := by decide +kernel
theorem dX1_settle_59 : decode cX1_settle 59 = .ok (.aload_n 0, 1) := by decide +kernel
theorem dX1_settle_60 : decode cX1_settle 60 = .ok (.getfield 9, 3) := by decide +kernel
theorem dX1_settle_63 : decode cX1_settle 63 = .ok (.iload_n 2, 1) := by decide +kernel
theorem dX1_settle_64 : decode cX1_settle 64 = .ok (.iaload, 1) := by decide +kernel
theorem dX1_settle_65 : decode cX1_settle 65 = .ok (.istore_n 3, 1) := by decide +kernel
theorem dX1_settle_66 : decode cX1_settle 66 = .ok (.aload_n 0, 1) := by decide +kernel
theorem dX1_settle_67 : decode cX1_settle 67 = .ok (.getfield 17, 3) := by decide +kernel
theorem dX1_settle_70 : decode cX1_settle 70 = .ok (.iload_n 3, 1) := by decide +kernel
theorem dX1_settle_71 : decode cX1_settle 71 = .ok (.aaload, 1) := by decide +kernel
theorem dX1_settle_72 : decode cX1_settle 72 = .ok (.astore 4, 2) := by decide +kernel
theorem dX1_settle_74 : decode cX1_settle 74 = .ok (.aload_n 0, 1) := by decide +kernel
theorem dX1_settle_75 : decode cX1_settle 75 = .ok (.getfield 24, 3) := by decide +kernel
theorem dX1_settle_78 : decode cX1_settle 78 = .ok (.aload 4, 2) := by decide +kernel
theorem dX1_settle_80 : decode cX1_settle 80 = .ok (.bipush 7, 2) := by decide +kernel
theorem dX1_settle_82 : decode cX1_settle 82 = .ok (.laload, 1) := by decide +kernel
theorem dX1_settle_83 : decode cX1_settle 83 = .ok (.lmul, 1) := by decide +kernel
theorem dX1_settle_84 : decode cX1_settle 84 = .ok (.lstore 5, 2) := by decide +kernel
theorem dX1_settle_86 : decode cX1_settle 86 = .ok (.iload_n 2, 1) := by decide +kernel
theorem dX1_settle_87 : decode cX1_settle 87 = .ok (.iconst 1, 1) := by decide +kernel
theorem dX1_settle_88 : decode cX1_settle 88 = .ok (.iadd, 1) := by decide +kernel
theorem dX1_settle_89 : decode cX1_settle 89 = .ok (.istore 7, 2) := by decide +kernel
theorem dX1_settle_91 : decode cX1_settle 91 = .ok (.iload 7, 2) := by decide +kernel
theorem dX1_settle_93 : decode cX1_settle 93 = .ok (.aload_n 0, 1) := by decide +kernel
theorem dX1_settle_94 : decode cX1_settle 94 = .ok (.getfield 28, 3) := by decide +kernel
theorem dX1_settle_97 : decode cX1_settle 97 = .ok (.if_icmp .ge 37, 3) := by decide +kernel
theorem dX1_settle_100 : decode cX1_settle 100 = .ok (.lload 5, 2) := by decide +kernel
theorem dX1_settle_102 : decode cX1_settle 102 = .ok (.aload 4, 2) := by decide +kernel
theorem dX1_settle_104 : decode cX1_settle 104 = .ok (.aload_n 0, 1) := by decide +kernel
theorem dX1_settle_105 : decode cX1_settle 105 = .ok (.getfield 9, 3) := by decide +kernel
theorem dX1_settle_108 : decode cX1_settle 108 = .ok (.iload 7, 2) := by decide +kernel
theorem dX1_settle_110 : decode cX1_settle 110 = .ok (.iaload, 1) := by decide +kernel
theorem dX1_settle_111 : decode cX1_settle 111 = .ok (.laload, 1) := by decide +kernel
theorem dX1_settle_112 : decode cX1_settle 112 = .ok (.aload_n 0, 1) := by decide +kernel
theorem dX1_settle_113 : decode cX1_settle 113 = .ok (.getfield 20, 3) := by decide +kernel
theorem dX1_settle_116 : decode cX1_settle 116 = .ok (.aload_n 0, 1) := by decide +kernel
theorem dX1_settle_117 : decode cX1_settle 117 = .ok (.getfield 9, 3) := by decide +kernel
theorem dX1_settle_120 : decode cX1_settle 120 = .ok (.iload 7, 2) := by decide +kernel
theorem dX1_settle_122 : decode cX1_settle 122 = .ok (.iaload, 1) := by decide +kernel
theorem dX1_settle_123 : decode cX1_settle 123 = .ok (.laload, 1) := by decide +kernel
theorem dX1_settle_124 : decode cX1_settle 124 = .ok (.lmul, 1) := by decide +kernel
theorem dX1_settle_125 : decode cX1_settle 125 = .ok (.lsub, 1) := by decide +kernel
theorem dX1_settle_126 : decode cX1_settle 126 = .ok (.lstore 5, 2) := by decide +kernel
theorem dX1_settle_128 : decode cX1_settle 128 = .ok (.iinc 7 1, 3) := by decide +kernel
theorem dX1_settle_131 : decode cX1_settle 131 = .ok (.goto (-40), 3) := by decide +kernel
theorem dX1_settle_134 : decode cX1_settle 134 = .ok (.aload_n 0, 1) := by decide +kernel
theorem dX1_settle_135 : decode cX1_settle 135 = .ok (.getfield 20, 3) := by decide +kernel
theorem dX1_settle_138 : decode cX1_settle 138 = .ok (.iload_n 3, 1) := by decide +kernel
theorem dX1_settle_139 : decode cX1_settle 139 = .ok (.lload 5, 2) := by decide +kernel
theorem dX1_settle_141 : decode cX1_settle 141 = .ok (.aload 4, 2) := by decide +kernel
theorem dX1_settle_143 : decode cX1_settle 143 = .ok (.iload_n 3, 1) := by decide +kernel
theorem dX1_settle_144 : decode cX1_settle 144 = .ok (.laload, 1) := by decide +kernel
theorem dX1_settle_145 : decode cX1_settle 145 = .ok (.invokestatic 32, 3) := by decide +kernel
theorem dX1_settle_148 : decode cX1_settle 148 = .ok (.lastore, 1) := by decide +kernel
theorem dX1_settle_149 : decode cX1_settle 149 = .ok (.iinc 2 (-1), 3) := by decide +kernel
theorem dX1_settle_152 : decode cX1_settle 152 = .ok (.goto (-97), 3) := by decide +kernel
theorem dX1_settle_155 : decode cX1_settle 155 = .ok (.return_, 1) := by decide +kernel
theorem dX2_init_0 : decode cX2_init 0 = .ok (.aload_n 0, 1) := by decide +kernel
theorem dX2_init_1 : decode cX2_init 1 = .ok (.invokespecial 3, 3) := by decide +kernel
theorem dX2_init_4 : decode cX2_init 4 = .ok (.aload_n 0, 1) := by decide +kernel
theorem dX2_init_5 : decode cX2_init 5 = .ok (.iconst 1, 1) := by decide +kernel
theorem dX2_init_6 : decode cX2_init 6 = .ok (.putfield 9, 3) := by decide +kernel
theorem dX2_init_9 : decode cX2_init 9 = .ok (.aload_n 0, 1) := by decide +kernel
theorem dX2_init_10 : decode cX2_init 10 = .ok (.iconst 2, 1) := by decide +kernel
theorem dX2_init_11 : decode cX2_init 11 = .ok (.putfield 15, 3) := by decide +kernel
theorem dX2_init_14 : decode cX2_init 14 = .ok (.aload_n 0, 1) := by decide +kernel
theorem dX2_init_15 : decode cX2_init 15 = .ok (.iconst 1, 1) := by decide +kernel
theorem dX2_init_16 : decode cX2_init 16 = .ok (.putfield 18, 3) := by decide +kernel
theorem dX2_init_19 : decode cX2_init 19 = .ok (.aload_n 0, 1) := by decide +kernel
theorem dX2_init_20 : decode cX2_init 20 = .ok (.iconst 1, 1) := by decide +kernel
theorem dX2_init_21 : decode cX2_init 21 = .ok (.putfield 21, 3) := by decide +kernel
theorem dX2_init_24 : decode cX2_init 24 = .ok (.aload_n 0, 1) := by decide +kernel
theorem dX2_init_25 : decode cX2_init 25 = .ok (.bipush 7, 2) := by decide +kernel
theorem dX2_init_27 : decode cX2_init 27 = .ok (.newarray .boolean, 2) := by decide +kernel
theorem dX2_init_29 : decode cX2_init 29 = .ok (.putfield 24, 3) := by decide +kernel
theorem dX2_init_32 : decode cX2_init 32 = .ok (.aload_n 0, 1) := by decide +kernel
theorem dX2_init_33 : decode cX2_init 33 = .ok (.bipush 7, 2) := by decide +kernel
theorem dX2_init_35 : decode cX2_init 35 = .ok (.newarray .int, 2) := by decide +kernel
theorem dX2_init_37 : decode cX2_init 37 = .ok (.putfield 28, 3) := by decide +kernel
theorem dX2_init_40 : decode cX2_init 40 = .ok (.aload_n 0, 1) := by decide +kernel
theorem dX2_init_41 : decode cX2_init 41 = .ok (.bipush 7, 2) := by decide +kernel
theorem dX2_init_43 : decode cX2_init 43 = .ok (.newarray .int, 2) := by decide +kernel
theorem dX2_init_45 : decode cX2_init 45 = .ok (.putfield 32, 3) := by decide +kernel
theorem dX2_init_48 : decode cX2_init 48 = .ok (.aload_n 0, 1) := by decide +kernel
theorem dX2_init_49 : decode cX2_init 49 = .ok (.bipush 21, 2) := by decide +kernel
theorem dX2_init_51 : decode cX2_init 51 = .ok (.newarray .int, 2) := by decide +kernel
theorem dX2_init_53 : decode cX2_init 53 = .ok (.putfield 35, 3) := by decide +kernel
theorem dX2_init_56 : decode cX2_init 56 = .ok (.aload_n 0, 1) := by decide +kernel
theorem dX2_init_57 : decode cX2_init 57 = .ok (.bipush 21, 2) := by decide +kernel
theorem dX2_init_59 : decode cX2_init 59 = .ok (.newarray .int, 2) := by decide +kernel
theorem dX2_init_61 : decode cX2_init 61 = .ok (.putfield 38, 3) := by decide +kernel
theorem dX2_init_64 : decode cX2_init 64 = .ok (.aload_n 0, 1) := by decide +kernel
theorem dX2_init_65 : decode cX2_init 65 = .ok (.bipush 21, 2) := by decide +kernel
theorem dX2_init_67 : decode cX2_init 67 = .ok (.newarray .int, 2) := by decide +kernel
theorem dX2_init_69 : decode cX2_init 69 = .ok (.putfield 41, 3) := by decide +kernel
theorem dX2_init_72 : decode cX2_init 72 = .ok (.aload_n 0, 1) := by decide +kernel
theorem dX2_init_73 : decode cX2_init 73 = .ok (.bipush 21, 2) := by decide +kernel
theorem dX2_init_75 : decode cX2_init 75 = .ok (.newarray .int, 2) := by decide +kernel
theorem dX2_init_77 : decode cX2_init 77 = .ok (.putfield 44, 3) := by decide +kernel
theorem dX2_init_80 : decode cX2_init 80 = .ok (.aload_n 0, 1) := by decide +kernel
theorem dX2_init_81 : decode cX2_init 81 = .ok (.bipush 21, 2) := by decide +kernel
theorem dX2_init_83 : decode cX2_init 83 = .ok (.bipush 7, 2) := by decide +kernel
theorem dX2_init_85 : decode cX2_init 85 = .ok (.multianewarray 47 2, 4) := by decide +kernel
theorem dX2_init_89 : decode cX2_init 89 = .ok (.putfield 49, 3) := by decide +kernel
theorem dX2_init_92 : decode cX2_init 92 = .ok (.return_, 1) := by decide +kernel
theorem dX2_moveOf_0 : decode cX2_moveOf 0 = .ok (.iload_n 0, 1) := by decide +kernel
theorem dX2_moveOf_1 : decode cX2_moveOf 1 = .ok (.iconst 3, 1) := by decide +kernel
theorem dX2_moveOf_2 : decode cX2_moveOf 2 = .ok (.imul, 1) := by decide +kernel
theorem dX2_moveOf_3 : decode cX2_moveOf 3 = .ok (.iload_n 1, 1) := by decide +kernel
theorem dX2_moveOf_4 : decode cX2_moveOf 4 = .ok (.iadd, 1) := by decide +kernel
theorem dX2_moveOf_5 : decode cX2_moveOf 5 = .ok (.ireturn, 1) := by decide +kernel
theorem dX2_holds_0 : decode cX2_holds 0 = .ok (.iload_n 0, 1) := by decide +kernel
theorem dX2_holds_1 : decode cX2_holds 1 = .ok (.iload_n 1, 1) := by decide +kernel
theorem dX2_holds_2 : decode cX2_holds 2 = .ok (.ishr, 1) := by decide +kernel
theorem dX2_holds_3 : decode cX2_holds 3 = .ok (.iconst 1, 1) := by decide +kernel
theorem dX2_holds_4 : decode cX2_holds 4 = .ok (.iand, 1) := by decide +kernel
theorem dX2_holds_5 : decode cX2_holds 5 = .ok (.iconst 1, 1) := by decide +kernel
theorem dX2_holds_6 : decode cX2_holds 6 = .ok (.if_icmp .ne 7, 3) := by decide +kernel
theorem dX2_holds_9 : decode cX2_holds 9 = .ok (.iconst 1, 1) := by decide +kernel
theorem dX2_holds_10 : decode cX2_holds 10 = .ok (.goto 4, 3) := by decide +kernel
theorem dX2_holds_13 : decode cX2_holds 13 = .ok (.iconst 0, 1) := by decide +kernel
theorem dX2_holds_14 : decode cX2_holds 14 = .ok (.ireturn, 1) := by decide +kernel
theorem dX2_hasState_0 : decode cX2_hasState 0 = .ok (.iload_n 1, 1) := by decide +kernel
theorem dX2_hasState_1 : decode cX2_hasState 1 = .ok (.ifCond .lt 15, 3) := by decide +kernel
theorem dX2_hasState_4 : decode cX2_hasState 4 = .ok (.iload_n 1, 1) := by decide +kernel
theorem dX2_hasState_5 : decode cX2_hasState 5 = .ok (.aload_n 0, 1) := by decide +kernel
theorem dX2_hasState_6 : decode cX2_hasState 6 = .ok (.getfield 52, 3) := by decide +kernel
theorem dX2_hasState_9 : decode cX2_hasState 9 = .ok (.if_icmp .ge 7, 3) := by decide +kernel
theorem dX2_hasState_12 : decode cX2_hasState 12 = .ok (.iconst 1, 1) := by decide +kernel
theorem dX2_hasState_13 : decode cX2_hasState 13 = .ok (.goto 4, 3) := by decide +kernel
theorem dX2_hasState_16 : decode cX2_hasState 16 = .ok (.iconst 0, 1) := by decide +kernel
theorem dX2_hasState_17 : decode cX2_hasState 17 = .ok (.ireturn, 1) := by decide +kernel
theorem dX2_hasChoice_0 : decode cX2_hasChoice 0 = .ok (.aload_n 0, 1) := by decide +kernel
theorem dX2_hasChoice_1 : decode cX2_hasChoice 1 = .ok (.iload_n 1, 1) := by decide +kernel
theorem dX2_hasChoice_2 : decode cX2_hasChoice 2 = .ok (.invokevirtual 55, 3) := by decide +kernel
theorem dX2_hasChoice_5 : decode cX2_hasChoice 5 = .ok (.ifCond .eq 21, 3) := by decide +kernel
theorem dX2_hasChoice_8 : decode cX2_hasChoice 8 = .ok (.iload_n 2, 1) := by decide +kernel
theorem dX2_hasChoice_9 : decode cX2_hasChoice 9 = .ok (.ifCond .lt 17, 3) := by decide +kernel
theorem dX2_hasChoice_12 : decode cX2_hasChoice 12 = .ok (.iload_n 2, 1) := by decide +kernel
theorem dX2_hasChoice_13 : decode cX2_hasChoice 13 = .ok (.aload_n 0, 1) := by decide +kernel
theorem dX2_hasChoice_14 : decode cX2_hasChoice 14 = .ok (.getfield 32, 3) := by decide +kernel
theorem dX2_hasChoice_17 : decode cX2_hasChoice 17 = .ok (.iload_n 1, 1) := by decide +kernel
theorem dX2_hasChoice_18 : decode cX2_hasChoice 18 = .ok (.iaload, 1) := by decide +kernel
theorem dX2_hasChoice_19 : decode cX2_hasChoice 19 = .ok (.if_icmp .ge 7, 3) := by decide +kernel
theorem dX2_hasChoice_22 : decode cX2_hasChoice 22 = .ok (.iconst 1, 1) := by decide +kernel
theorem dX2_hasChoice_23 : decode cX2_hasChoice 23 = .ok (.goto 4, 3) := by decide +kernel
theorem dX2_hasChoice_26 : decode cX2_hasChoice 26 = .ok (.iconst 0, 1) := by decide +kernel
theorem dX2_hasChoice_27 : decode cX2_hasChoice 27 = .ok (.ireturn, 1) := by decide +kernel
theorem dX2_isTarget_0 : decode cX2_isTarget 0 = .ok (.aload_n 0, 1) := by decide +kernel
theorem dX2_isTarget_1 : decode cX2_isTarget 1 = .ok (.getfield 59, 3) := by decide +kernel
theorem dX2_isTarget_4 : decode cX2_isTarget 4 = .ok (.iload_n 1, 1) := by decide +kernel
theorem dX2_isTarget_5 : decode cX2_isTarget 5 = .ok (.invokestatic 62, 3) := by decide +kernel
theorem dX2_isTarget_8 : decode cX2_isTarget 8 = .ok (.ireturn, 1) := by decide +kernel
theorem dX2_everyState_0 : decode cX2_everyState 0 = .ok (.iconst 1, 1) := by decide +kernel
theorem dX2_everyState_1 : decode cX2_everyState 1 = .ok (.aload_n 0, 1) := by decide +kernel
theorem dX2_everyState_2 : decode cX2_everyState 2 = .ok (.getfield 52, 3) := by decide +kernel
theorem dX2_everyState_5 : decode cX2_everyState 5 = .ok (.ishl, 1) := by decide +kernel
theorem dX2_everyState_6 : decode cX2_everyState 6 = .ok (.iconst 1, 1) := by decide +kernel
theorem dX2_everyState_7 : decode cX2_everyState 7 = .ok (.isub, 1) := by decide +kernel
theorem dX2_everyState_8 : decode cX2_everyState 8 = .ok (.ireturn, 1) := by decide +kernel
theorem dX2_isReady_0 : decode cX2_isReady 0 = .ok (.iconst 0, 1) := by decide +kernel
theorem dX2_isReady_1 : decode cX2_isReady 1 = .ok (.istore_n 1, 1) := by decide +kernel
theorem dX2_isReady_2 : decode cX2_isReady 2 = .ok (.iload_n 1, 1) := by decide +kernel
theorem dX2_isReady_3 : decode cX2_isReady 3 = .ok (.aload_n 0, 1) := by decide +kernel
theorem dX2_isReady_4 : decode cX2_isReady 4 = .ok (.getfield 52, 3) := by decide +kernel
theorem dX2_isReady_7 : decode cX2_isReady 7 = .ok (.if_icmp .ge 53, 3) := by decide +kernel
theorem dX2_isReady_10 : decode cX2_isReady 10 = .ok (.aload_n 0, 1) := by decide +kernel
theorem dX2_isReady_11 : decode cX2_isReady 11 = .ok (.getfield 32, 3) := by decide +kernel
theorem dX2_isReady_14 : decode cX2_isReady 14 = .ok (.iload_n 1, 1) := by decide +kernel
theorem dX2_isReady_15 : decode cX2_isReady 15 = .ok (.iaload, 1) := by decide +kernel
theorem dX2_isReady_16 : decode cX2_isReady 16 = .ok (.ifCond .ne 5, 3) := by decide +kernel
theorem dX2_isReady_19 : decode cX2_isReady 19 = .ok (.iconst 0, 1) := by decide +kernel
theorem dX2_isReady_20 : decode cX2_isReady 20 = .ok (.ireturn, 1) := by decide +kernel
theorem dX2_isReady_21 : decode cX2_isReady 21 = .ok (.iconst 0, 1) := by decide +kernel
theorem dX2_isReady_22 : decode cX2_isReady 22 = .ok (.istore_n 2, 1) := by decide +kernel
theorem dX2_isReady_23 : decode cX2_isReady 23 = .ok (.iload_n 2, 1) := by decide +kernel
theorem dX2_isReady_24 : decode cX2_isReady 24 = .ok (.aload_n 0, 1) := by decide +kernel
theorem dX2_isReady_25 : decode cX2_isReady 25 = .ok (.getfield 32, 3) := by decide +kernel
theorem dX2_isReady_28 : decode cX2_isReady 28 = .ok (.iload_n 1, 1) := by decide +kernel
theorem dX2_isReady_29 : decode cX2_isReady 29 = .ok (.iaload, 1) := by decide +kernel
theorem dX2_isReady_30 : decode cX2_isReady 30 = .ok (.if_icmp .ge 24, 3) := by decide +kernel
theorem dX2_isReady_33 : decode cX2_isReady 33 = .ok (.aload_n 0, 1) := by decide +kernel
theorem dX2_isReady_34 : decode cX2_isReady 34 = .ok (.getfield 41, 3) := by decide +kernel
theorem dX2_isReady_37 : decode cX2_isReady 37 = .ok (.iload_n 1, 1) := by decide +kernel
theorem dX2_isReady_38 : decode cX2_isReady 38 = .ok (.iload_n 2, 1) := by decide +kernel
theorem dX2_isReady_39 : decode cX2_isReady 39 = .ok (.invokestatic 66, 3) := by decide +kernel
theorem dX2_isReady_42 : decode cX2_isReady 42 = .ok (.iaload, 1) := by decide +kernel
theorem dX2_isReady_43 : decode cX2_isReady 43 = .ok (.ifCond .ne 5, 3) := by decide +kernel
theorem dX2_isReady_46 : decode cX2_isReady 46 = .ok (.iconst 0, 1) := by decide +kernel
theorem dX2_isReady_47 : decode cX2_isReady 47 = .ok (.ireturn, 1) := by decide +kernel
theorem dX2_isReady_48 : decode cX2_isReady 48 = .ok (.iinc 2 1, 3) := by decide +kernel
theorem dX2_isReady_51 : decode cX2_isReady 51 = .ok (.goto (-28), 3) := by decide +kernel
theorem dX2_isReady_54 : decode cX2_isReady 54 = .ok (.iinc 1 1, 3) := by decide +kernel
theorem dX2_isReady_57 : decode cX2_isReady 57 = .ok (.goto (-55), 3) := by decide +kernel
theorem dX2_isReady_60 : decode cX2_isReady 60 = .ok (.aload_n 0, 1) := by decide +kernel
theorem dX2_isReady_61 : decode cX2_isReady 61 = .ok (.getfield 52, 3) := by decide +kernel
theorem dX2_isReady_64 : decode cX2_isReady 64 = .ok (.ifCond .le 7, 3) := by decide +kernel
theorem dX2_isReady_67 : decode cX2_isReady 67 = .ok (.iconst 1, 1) := by decide +kernel
theorem dX2_isReady_68 : decode cX2_isReady 68 = .ok (.goto 4, 3) := by decide +kernel
theorem dX2_isReady_71 : decode cX2_isReady 71 = .ok (.iconst 0, 1) := by decide +kernel
theorem dX2_isReady_72 : decode cX2_isReady 72 = .ok (.ireturn, 1) := by decide +kernel
theorem dX2_costOf_0 : decode cX2_costOf 0 = .ok (.iload_n 2, 1) := by decide +kernel
theorem dX2_costOf_1 : decode cX2_costOf 1 = .ok (.bipush 102, 2) := by decide +kernel
theorem dX2_costOf_3 : decode cX2_costOf 3 = .ok (.if_icmp .ne 10, 3) := by decide +kernel
theorem dX2_costOf_6 : decode cX2_costOf 6 = .ok (.aload_n 0, 1) := by decide +kernel
theorem dX2_costOf_7 : decode cX2_costOf 7 = .ok (.getfield 35, 3) := by decide +kernel
theorem dX2_costOf_10 : decode cX2_costOf 10 = .ok (.iload_n 1, 1) := by decide +kernel
theorem dX2_costOf_11 : decode cX2_costOf 11 = .ok (.iaload, 1) := by decide +kernel
theorem dX2_costOf_12 : decode cX2_costOf 12 = .ok (.ireturn, 1) := by decide +kernel
theorem dX2_costOf_13 : decode cX2_costOf 13 = .ok (.iload_n 2, 1) := by decide +kernel
theorem dX2_costOf_14 : decode cX2_costOf 14 = .ok (.bipush 115, 2) := by decide +kernel
theorem dX2_costOf_16 : decode cX2_costOf 16 = .ok (.if_icmp .ne 10, 3) := by decide +kernel
theorem dX2_costOf_19 : decode cX2_costOf 19 = .ok (.aload_n 0, 1) := by decide +kernel
theorem dX2_costOf_20 : decode cX2_costOf 20 = .ok (.getfield 38, 3) := by decide +kernel
theorem dX2_costOf_23 : decode cX2_costOf 23 = .ok (.iload_n 1, 1) := by decide +kernel
theorem dX2_costOf_24 : decode cX2_costOf 24 = .ok (.iaload, 1) := by decide +kernel
theorem dX2_costOf_25 : decode cX2_costOf 25 = .ok (.ireturn, 1) := by decide +kernel
theorem dX2_costOf_26 : decode cX2_costOf 26 = .ok (.aload_n 0, 1) := by decide +kernel
theorem dX2_costOf_27 : decode cX2_costOf 27 = .ok (.getfield 18, 3) := by decide +kernel
theorem dX2_costOf_30 : decode cX2_costOf 30 = .ok (.aload_n 0, 1) := by decide +kernel
theorem dX2_costOf_31 : decode cX2_costOf 31 = .ok (.getfield 35, 3) := by decide +kernel
theorem dX2_costOf_34 : decode cX2_costOf 34 = .ok (.iload_n 1, 1) := by decide +kernel
theorem dX2_costOf_35 : decode cX2_costOf 35 = .ok (.iaload, 1) := by decide +kernel
theorem dX2_costOf_36 : decode cX2_costOf 36 = .ok (.imul, 1) := by decide +kernel
theorem dX2_costOf_37 : decode cX2_costOf 37 = .ok (.aload_n 0, 1) := by decide +kernel
theorem dX2_costOf_38 : decode cX2_costOf 38 = .ok (.getfield 21, 3) := by decide +kernel
theorem dX2_costOf_41 : decode cX2_costOf 41 = .ok (.aload_n 0, 1) := by decide +kernel
theorem dX2_costOf_42 : decode cX2_costOf 42 = .ok (.getfield 38, 3) := by decide +kernel
theorem dX2_costOf_45 : decode cX2_costOf 45 = .ok (.iload_n 1, 1) := by decide +kernel
theorem dX2_costOf_46 : decode cX2_costOf 46 = .ok (.iaload, 1) := by decide +kernel
theorem dX2_costOf_47 : decode cX2_costOf 47 = .ok (.imul, 1) := by decide +kernel
theorem dX2_costOf_48 : decode cX2_costOf 48 = .ok (.iadd, 1) := by decide +kernel
theorem dX2_costOf_49 : decode cX2_costOf 49 = .ok (.ireturn, 1) := by decide +kernel
theorem dX2_placeState_0 : decode cX2_placeState 0 = .ok (.aload_n 0, 1) := by decide +kernel
theorem dX2_placeState_1 : decode cX2_placeState 1 = .ok (.getfield 52, 3) := by decide +kernel
theorem dX2_placeState_4 : decode cX2_placeState 4 = .ok (.istore_n 3, 1) := by decide +kernel
theorem dX2_placeState_5 : decode cX2_placeState 5 = .ok (.aload_n 0, 1) := by decide +kernel
theorem dX2_placeState_6 : decode cX2_placeState 6 = .ok (.getfield 24, 3) := by decide +kernel
theorem dX2_placeState_9 : decode cX2_placeState 9 = .ok (.iload_n 3, 1) := by decide +kernel
theorem dX2_placeState_10 : decode cX2_placeState 10 = .ok (.iload_n 1, 1) := by decide +kernel
theorem dX2_placeState_11 : decode cX2_placeState 11 = .ok (.bastore, 1) := by decide +kernel
theorem dX2_placeState_12 : decode cX2_placeState 12 = .ok (.aload_n 0, 1) := by decide +kernel
theorem dX2_placeState_13 : decode cX2_placeState 13 = .ok (.getfield 28, 3) := by decide +kernel
theorem dX2_placeState_16 : decode cX2_placeState 16 = .ok (.iload_n 3, 1) := by decide +kernel
theorem dX2_placeState_17 : decode cX2_placeState 17 = .ok (.iload_n 2, 1) := by decide +kernel
theorem dX2_placeState_18 : decode cX2_placeState 18 = .ok (.iastore, 1) := by decide +kernel
theorem dX2_placeState_19 : decode cX2_placeState 19 = .ok (.aload_n 0, 1) := by decide +kernel
theorem dX2_placeState_20 : decode cX2_placeState 20 = .ok (.dup, 1) := by decide +kernel
theorem dX2_placeState_21 : decode cX2_placeState 21 = .ok (.getfield 52, 3) := by decide +kernel
theorem dX2_placeState_24 : decode cX2_placeState 24 = .ok (.iconst 1, 1) := by decide +kernel
theorem dX2_placeState_25 : decode cX2_placeState 25 = .ok (.iadd, 1) := by decide +kernel
theorem dX2_placeState_26 : decode cX2_placeState 26 = .ok (.putfield 52, 3) := by decide +kernel
theorem dX2_placeState_29 : decode cX2_placeState 29 = .ok (.aload_n 0, 1) := by decide +kernel
theorem dX2_placeState_30 : decode cX2_placeState 30 = .ok (.dup, 1) := by decide +kernel
theorem dX2_placeState_31 : decode cX2_placeState 31 = .ok (.getfield 70, 3) := by decide +kernel
theorem dX2_placeState_34 : decode cX2_placeState 34 = .ok (.iconst 1, 1) := by decide +kernel
theorem dX2_placeState_35 : decode cX2_placeState 35 = .ok (.iadd, 1) := by decide +kernel
theorem dX2_placeState_36 : decode cX2_placeState 36 = .ok (.putfield 70, 3) := by decide +kernel
theorem dX2_placeState_39 : decode cX2_placeState 39 = .ok (.iload_n 3, 1) := by decide +kernel
theorem dX2_placeState_40 : decode cX2_placeState 40 = .ok (.ireturn, 1) := by decide +kernel
theorem dX2_placeChoice_0 : decode cX2_placeChoice 0 = .ok (.aload_n 0, 1) := by decide +kernel
theorem dX2_placeChoice_1 : decode cX2_placeChoice 1 = .ok (.getfield 32, 3) := by decide +kernel
theorem dX2_placeChoice_4 : decode cX2_placeChoice 4 = .ok (.iload_n 1, 1) := by decide +kernel
theorem dX2_placeChoice_5 : decode cX2_placeChoice 5 = .ok (.iaload, 1) := by decide +kernel
theorem dX2_placeChoice_6 : decode cX2_placeChoice 6 = .ok (.istore 4, 2) := by decide +kernel
theorem dX2_placeChoice_8 : decode cX2_placeChoice 8 = .ok (.iload_n 1, 1) := by decide +kernel
theorem dX2_placeChoice_9 : decode cX2_placeChoice 9 = .ok (.iload 4, 2) := by decide +kernel
theorem dX2_placeChoice_11 : decode cX2_placeChoice 11 = .ok (.invokestatic 66, 3) := by decide +kernel
theorem dX2_placeChoice_14 : decode cX2_placeChoice 14 = .ok (.istore 5, 2) := by decide +kernel
theorem dX2_placeChoice_16 : decode cX2_placeChoice 16 = .ok (.aload_n 0, 1) := by decide +kernel
theorem dX2_placeChoice_17 : decode cX2_placeChoice 17 = .ok (.getfield 35, 3) := by decide +kernel
theorem dX2_placeChoice_20 : decode cX2_placeChoice 20 = .ok (.iload 5, 2) := by decide +kernel
theorem dX2_placeChoice_22 : decode cX2_placeChoice 22 = .ok (.iload_n 2, 1) := by decide +kernel
theorem dX2_placeChoice_23 : decode cX2_placeChoice 23 = .ok (.iastore, 1) := by decide +kernel
theorem dX2_placeChoice_24 : decode cX2_placeChoice 24 = .ok (.aload_n 0, 1) := by decide +kernel
theorem dX2_placeChoice_25 : decode cX2_placeChoice 25 = .ok (.getfield 38, 3) := by decide +kernel
theorem dX2_placeChoice_28 : decode cX2_placeChoice 28 = .ok (.iload 5, 2) := by decide +kernel
theorem dX2_placeChoice_30 : decode cX2_placeChoice 30 = .ok (.iload_n 3, 1) := by decide +kernel
theorem dX2_placeChoice_31 : decode cX2_placeChoice 31 = .ok (.iastore, 1) := by decide +kernel
theorem dX2_placeChoice_32 : decode cX2_placeChoice 32 = .ok (.aload_n 0, 1) := by decide +kernel
theorem dX2_placeChoice_33 : decode cX2_placeChoice 33 = .ok (.getfield 32, 3) := by decide +kernel
theorem dX2_placeChoice_36 : decode cX2_placeChoice 36 = .ok (.iload_n 1, 1) := by decide +kernel
theorem dX2_placeChoice_37 : decode cX2_placeChoice 37 = .ok (.dup2, 1) := by decide +kernel
theorem dX2_placeChoice_38 : decode cX2_placeChoice 38 = .ok (.iaload, 1) := by decide +kernel
theorem dX2_placeChoice_39 : decode cX2_placeChoice 39 = .ok (.iconst 1, 1) := by decide +kernel
theorem dX2_placeChoice_40 : decode cX2_placeChoice 40 = .ok (.iadd, 1) := by decide +kernel
theorem dX2_placeChoice_41 : decode cX2_placeChoice 41 = .ok (.iastore, 1) := by decide +kernel
theorem dX2_placeChoice_42 : decode cX2_placeChoice 42 = .ok (.aload_n 0, 1) := by decide +kernel
theorem dX2_placeChoice_43 : decode cX2_placeChoice 43 = .ok (.dup, 1) := by decide +kernel
theorem dX2_placeChoice_44 : decode cX2_placeChoice 44 = .ok (.getfield 70, 3) := by decide +kernel
theorem dX2_placeChoice_47 : decode cX2_placeChoice 47 = .ok (.iconst 1, 1) := by decide +kernel
theorem dX2_placeChoice_48 : decode cX2_placeChoice 48 = .ok (.iadd, 1) := by decide +kernel
theorem dX2_placeChoice_49 : decode cX2_placeChoice 49 = .ok (.putfield 70, 3) := by decide +kernel
theorem dX2_placeChoice_52 : decode cX2_placeChoice 52 = .ok (.iload 4, 2) := by decide +kernel
theorem dX2_placeChoice_54 : decode cX2_placeChoice 54 = .ok (.ireturn, 1) := by decide +kernel
theorem dX2_placeWeight_0 : decode cX2_placeWeight 0 = .ok (.aload_n 0, 1) := by decide +kernel
theorem dX2_placeWeight_1 : decode cX2_placeWeight 1 = .ok (.getfield 49, 3) := by decide +kernel
theorem dX2_placeWeight_4 : decode cX2_placeWeight 4 = .ok (.iload_n 1, 1) := by decide +kernel
theorem dX2_placeWeight_5 : decode cX2_placeWeight 5 = .ok (.aaload, 1) := by decide +kernel
theorem dX2_placeWeight_6 : decode cX2_placeWeight 6 = .ok (.iload_n 2, 1) := by decide +kernel
theorem dX2_placeWeight_7 : decode cX2_placeWeight 7 = .ok (.dup2, 1) := by decide +kernel
theorem dX2_placeWeight_8 : decode cX2_placeWeight 8 = .ok (.iaload, 1) := by decide +kernel
theorem dX2_placeWeight_9 : decode cX2_placeWeight 9 = .ok (.iload_n 3, 1) := by decide +kernel
theorem dX2_placeWeight_10 : decode cX2_placeWeight 10 = .ok (.iadd, 1) := by decide +kernel
theorem dX2_placeWeight_11 : decode cX2_placeWeight 11 = .ok (.iastore, 1) := by decide +kernel
theorem dX2_placeWeight_12 : decode cX2_placeWeight 12 = .ok (.aload_n 0, 1) := by decide +kernel
theorem dX2_placeWeight_13 : decode cX2_placeWeight 13 = .ok (.getfield 41, 3) := by decide +kernel
theorem dX2_placeWeight_16 : decode cX2_placeWeight 16 = .ok (.iload_n 1, 1) := by decide +kernel
theorem dX2_placeWeight_17 : decode cX2_placeWeight 17 = .ok (.dup2, 1) := by decide +kernel
theorem dX2_placeWeight_18 : decode cX2_placeWeight 18 = .ok (.iaload, 1) := by decide +kernel
theorem dX2_placeWeight_19 : decode cX2_placeWeight 19 = .ok (.iload_n 3, 1) := by decide +kernel
theorem dX2_placeWeight_20 : decode cX2_placeWeight 20 = .ok (.iadd, 1) := by decide +kernel
theorem dX2_placeWeight_21 : decode cX2_placeWeight 21 = .ok (.iastore, 1) := by decide +kernel
theorem dX2_placeWeight_22 : decode cX2_placeWeight 22 = .ok (.aload_n 0, 1) := by decide +kernel
theorem dX2_placeWeight_23 : decode cX2_placeWeight 23 = .ok (.getfield 44, 3) := by decide +kernel
theorem dX2_placeWeight_26 : decode cX2_placeWeight 26 = .ok (.iload_n 1, 1) := by decide +kernel
theorem dX2_placeWeight_27 : decode cX2_placeWeight 27 = .ok (.dup2, 1) := by decide +kernel
theorem dX2_placeWeight_28 : decode cX2_placeWeight 28 = .ok (.iaload, 1) := by decide +kernel
theorem dX2_placeWeight_29 : decode cX2_placeWeight 29 = .ok (.iconst 1, 1) := by decide +kernel
theorem dX2_placeWeight_30 : decode cX2_placeWeight 30 = .ok (.iload_n 2, 1) := by decide +kernel
theorem dX2_placeWeight_31 : decode cX2_placeWeight 31 = .ok (.ishl, 1) := by decide +kernel
theorem dX2_placeWeight_32 : decode cX2_placeWeight 32 = .ok (.ior, 1) := by decide +kernel
theorem dX2_placeWeight_33 : decode cX2_placeWeight 33 = .ok (.iastore, 1) := by decide +kernel
theorem dX2_placeWeight_34 : decode cX2_placeWeight 34 = .ok (.aload_n 0, 1) := by decide +kernel
theorem dX2_placeWeight_35 : decode cX2_placeWeight 35 = .ok (.dup, 1) := by decide +kernel
theorem dX2_placeWeight_36 : decode cX2_placeWeight 36 = .ok (.getfield 70, 3) := by decide +kernel
theorem dX2_placeWeight_39 : decode cX2_placeWeight 39 = .ok (.iconst 1, 1) := by decide +kernel
theorem dX2_placeWeight_40 : decode cX2_placeWeight 40 = .ok (.iadd, 1) := by decide +kernel
theorem dX2_placeWeight_41 : decode cX2_placeWeight 41 = .ok (.putfield 70, 3) := by decide +kernel
theorem dX2_placeWeight_44 : decode cX2_placeWeight 44 = .ok (.aload_n 0, 1) := by decide +kernel
theorem dX2_placeWeight_45 : decode cX2_placeWeight 45 = .ok (.getfield 41, 3) := by decide +kernel
theorem dX2_placeWeight_48 : decode cX2_placeWeight 48 = .ok (.iload_n 1, 1) := by decide +kernel
theorem dX2_placeWeight_49 : decode cX2_placeWeight 49 = .ok (.iaload, 1) := by decide +kernel
theorem dX2_placeWeight_50 : decode cX2_placeWeight 50 = .ok (.ireturn, 1) := by decide +kernel
theorem dX2_mark_0 : decode cX2_mark 0 = .ok (.aload_n 0, 1) := by decide +kernel
theorem dX2_mark_1 : decode cX2_mark 1 = .ok (.iload_n 1, 1) := by decide +kernel
theorem dX2_mark_2 : decode cX2_mark 2 = .ok (.invokevirtual 73, 3) := by decide +kernel
theorem dX2_mark_5 : decode cX2_mark 5 = .ok (.istore_n 3, 1) := by decide +kernel
theorem dX2_mark_6 : decode cX2_mark 6 = .ok (.iload_n 2, 1) := by decide +kernel
theorem dX2_mark_7 : decode cX2_mark 7 = .ok (.ifCond .eq 18, 3) := by decide +kernel
theorem dX2_mark_10 : decode cX2_mark 10 = .ok (.aload_n 0, 1) := by decide +kernel
theorem dX2_mark_11 : decode cX2_mark 11 = .ok (.dup, 1) := by decide +kernel
theorem dX2_mark_12 : decode cX2_mark 12 = .ok (.getfield 59, 3) := by decide +kernel
theorem dX2_mark_15 : decode cX2_mark 15 = .ok (.iconst 1, 1) := by decide +kernel
theorem dX2_mark_16 : decode cX2_mark 16 = .ok (.iload_n 1, 1) := by decide +kernel
theorem dX2_mark_17 : decode cX2_mark 17 = .ok (.ishl, 1) := by decide +kernel
theorem dX2_mark_18 : decode cX2_mark 18 = .ok (.ior, 1) := by decide +kernel
theorem dX2_mark_19 : decode cX2_mark 19 = .ok (.putfield 59, 3) := by decide +kernel
theorem dX2_mark_22 : decode cX2_mark 22 = .ok (.goto 17, 3) := by decide +kernel
theorem dX2_mark_25 : decode cX2_mark 25 = .ok (.aload_n 0, 1) := by decide +kernel
theorem dX2_mark_26 : decode cX2_mark 26 = .ok (.dup, 1) := by decide +kernel
theorem dX2_mark_27 : decode cX2_mark 27 = .ok (.getfield 59, 3) := by decide +kernel
theorem dX2_mark_30 : decode cX2_mark 30 = .ok (.iconst 1, 1) := by decide +kernel
theorem dX2_mark_31 : decode cX2_mark 31 = .ok (.iload_n 1, 1) := by decide +kernel
theorem dX2_mark_32 : decode cX2_mark 32 = .ok (.ishl, 1) := by decide +kernel
theorem dX2_mark_33 : decode cX2_mark 33 = .ok (.iconst (-1), 1) := by decide +kernel
theorem dX2_mark_34 : decode cX2_mark 34 = .ok (.ixor, 1) := by decide +kernel
theorem dX2_mark_35 : decode cX2_mark 35 = .ok (.iand, 1) := by decide +kernel
theorem dX2_mark_36 : decode cX2_mark 36 = .ok (.putfield 59, 3) := by decide +kernel
theorem dX2_mark_39 : decode cX2_mark 39 = .ok (.aload_n 0, 1) := by decide +kernel
theorem dX2_mark_40 : decode cX2_mark 40 = .ok (.dup, 1) := by decide +kernel
theorem dX2_mark_41 : decode cX2_mark 41 = .ok (.getfield 70, 3) := by decide +kernel
theorem dX2_mark_44 : decode cX2_mark 44 = .ok (.iconst 1, 1) := by decide +kernel
theorem dX2_mark_45 : decode cX2_mark 45 = .ok (.iadd, 1) := by decide +kernel
theorem dX2_mark_46 : decode cX2_mark 46 = .ok (.putfield 70, 3) := by decide +kernel
theorem dX2_mark_49 : decode cX2_mark 49 = .ok (.iload_n 3, 1) := by decide +kernel
theorem dX2_mark_50 : decode cX2_mark 50 = .ok (.ireturn, 1) := by decide +kernel
theorem dX2_changeDiscount_0 : decode cX2_changeDiscount 0 = .ok (.bipush 10, 2) := by decide +kernel
theorem dX2_changeDiscount_2 : decode cX2_changeDiscount 2 = .ok (.aload_n 0, 1) := by decide +kernel
theorem dX2_changeDiscount_3 : decode cX2_changeDiscount 3 = .ok (.getfield 9, 3) := by decide +kernel
theorem dX2_changeDiscount_6 : decode cX2_changeDiscount 6 = .ok (.imul, 1) := by decide +kernel
theorem dX2_changeDiscount_7 : decode cX2_changeDiscount 7 = .ok (.aload_n 0, 1) := by decide +kernel
theorem dX2_changeDiscount_8 : decode cX2_changeDiscount 8 = .ok (.getfield 15, 3) := by decide +kernel
theorem dX2_changeDiscount_11 : decode cX2_changeDiscount 11 = .ok (.iadd, 1) := by decide +kernel
theorem dX2_changeDiscount_12 : decode cX2_changeDiscount 12 = .ok (.istore_n 3, 1) := by decide +kernel
theorem dX2_changeDiscount_13 : decode cX2_changeDiscount 13 = .ok (.aload_n 0, 1) := by decide +kernel
theorem dX2_changeDiscount_14 : decode cX2_changeDiscount 14 = .ok (.iload_n 1, 1) := by decide +kernel
theorem dX2_changeDiscount_15 : decode cX2_changeDiscount 15 = .ok (.putfield 9, 3) := by decide +kernel
theorem dX2_changeDiscount_18 : decode cX2_changeDiscount 18 = .ok (.aload_n 0, 1) := by decide +kernel
theorem dX2_changeDiscount_19 : decode cX2_changeDiscount 19 = .ok (.iload_n 2, 1) := by decide +kernel
theorem dX2_changeDiscount_20 : decode cX2_changeDiscount 20 = .ok (.putfield 15, 3) := by decide +kernel
theorem dX2_changeDiscount_23 : decode cX2_changeDiscount 23 = .ok (.aload_n 0, 1) := by decide +kernel
theorem dX2_changeDiscount_24 : decode cX2_changeDiscount 24 = .ok (.dup, 1) := by decide +kernel
theorem dX2_changeDiscount_25 : decode cX2_changeDiscount 25 = .ok (.getfield 70, 3) := by decide +kernel
theorem dX2_changeDiscount_28 : decode cX2_changeDiscount 28 = .ok (.iconst 1, 1) := by decide +kernel
theorem dX2_changeDiscount_29 : decode cX2_changeDiscount 29 = .ok (.iadd, 1) := by decide +kernel
theorem dX2_changeDiscount_30 : decode cX2_changeDiscount 30 = .ok (.putfield 70, 3) := by decide +kernel
theorem dX2_changeDiscount_33 : decode cX2_changeDiscount 33 = .ok (.iload_n 3, 1) := by decide +kernel
theorem dX2_changeDiscount_34 : decode cX2_changeDiscount 34 = .ok (.ireturn, 1) := by decide +kernel
theorem dX2_changeWeights_0 : decode cX2_changeWeights 0 = .ok (.bipush 10, 2) := by decide +kernel
theorem dX2_changeWeights_2 : decode cX2_changeWeights 2 = .ok (.aload_n 0, 1) := by decide +kernel
theorem dX2_changeWeights_3 : decode cX2_changeWeights 3 = .ok (.getfield 18, 3) := by decide +kernel
theorem dX2_changeWeights_6 : decode cX2_changeWeights 6 = .ok (.imul, 1) := by decide +kernel
theorem dX2_changeWeights_7 : decode cX2_changeWeights 7 = .ok (.aload_n 0, 1) := by decide +kernel
theorem dX2_changeWeights_8 : decode cX2_changeWeights 8 = .ok (.getfield 21, 3) := by decide +kernel
theorem dX2_changeWeights_11 : decode cX2_changeWeights 11 = .ok (.iadd, 1) := by decide +kernel
theorem dX2_changeWeights_12 : decode cX2_changeWeights 12 = .ok (.istore_n 3, 1) := by decide +kernel
theorem dX2_changeWeights_13 : decode cX2_changeWeights 13 = .ok (.aload_n 0, 1) := by decide +kernel
theorem dX2_changeWeights_14 : decode cX2_changeWeights 14 = .ok (.iload_n 1, 1) := by decide +kernel
theorem dX2_changeWeights_15 : decode cX2_changeWeights 15 = .ok (.putfield 18, 3) := by decide +kernel
theorem dX2_changeWeights_18 : decode cX2_changeWeights 18 = .ok (.aload_n 0, 1) := by decide +kernel
theorem dX2_changeWeights_19 : decode cX2_changeWeights 19 = .ok (.iload_n 2, 1) := by decide +kernel
theorem dX2_changeWeights_20 : decode cX2_changeWeights 20 = .ok (.putfield 21, 3) := by decide +kernel
theorem dX2_changeWeights_23 : decode cX2_changeWeights 23 = .ok (.aload_n 0, 1) := by decide +kernel
theorem dX2_changeWeights_24 : decode cX2_changeWeights 24 = .ok (.dup, 1) := by decide +kernel
theorem dX2_changeWeights_25 : decode cX2_changeWeights 25 = .ok (.getfield 70, 3) := by decide +kernel
theorem dX2_changeWeights_28 : decode cX2_changeWeights 28 = .ok (.iconst 1, 1) := by decide +kernel
theorem dX2_changeWeights_29 : decode cX2_changeWeights 29 = .ok (.iadd, 1) := by decide +kernel
theorem dX2_changeWeights_30 : decode cX2_changeWeights 30 = .ok (.putfield 70, 3) := by decide +kernel
theorem dX2_changeWeights_33 : decode cX2_changeWeights 33 = .ok (.iload_n 3, 1) := by decide +kernel
theorem dX2_changeWeights_34 : decode cX2_changeWeights 34 = .ok (.ireturn, 1) := by decide +kernel
theorem dX3_init_0 : decode cX3_init 0 = .ok (.aload_n 0, 1) := by decide +kernel
theorem dX3_init_1 : decode cX3_init 1 = .ok (.invokespecial 3, 3) := by decide +kernel
theorem dX3_init_4 : decode cX3_init 4 = .ok (.aload_n 0, 1) := by decide +kernel
theorem dX3_init_5 : decode cX3_init 5 = .ok (.bipush 7, 2) := by decide +kernel
theorem dX3_init_7 : decode cX3_init 7 = .ok (.newarray .int, 2) := by decide +kernel
theorem dX3_init_9 : decode cX3_init 9 = .ok (.putfield 9, 3) := by decide +kernel
theorem dX3_init_12 : decode cX3_init 12 = .ok (.aload_n 0, 1) := by decide +kernel
theorem dX3_init_13 : decode cX3_init 13 = .ok (.bipush 7, 2) := by decide +kernel
theorem dX3_init_15 : decode cX3_init 15 = .ok (.newarray .double, 2) := by decide +kernel
theorem dX3_init_17 : decode cX3_init 17 = .ok (.putfield 15, 3) := by decide +kernel
theorem dX3_init_20 : decode cX3_init 20 = .ok (.aload_n 0, 1) := by decide +kernel
theorem dX3_init_21 : decode cX3_init 21 = .ok (.bipush 7, 2) := by decide +kernel
theorem dX3_init_23 : decode cX3_init 23 = .ok (.newarray .double, 2) := by decide +kernel
theorem dX3_init_25 : decode cX3_init 25 = .ok (.putfield 19, 3) := by decide +kernel
theorem dX3_init_28 : decode cX3_init 28 = .ok (.aload_n 0, 1) := by decide +kernel
theorem dX3_init_29 : decode cX3_init 29 = .ok (.aload_n 1, 1) := by decide +kernel
theorem dX3_init_30 : decode cX3_init 30 = .ok (.putfield 22, 3) := by decide +kernel
theorem dX3_init_33 : decode cX3_init 33 = .ok (.return_, 1) := by decide +kernel
theorem dX3_positive_0 : decode cX3_positive 0 = .ok (.aload_n 0, 1) := by decide +kernel
theorem dX3_positive_1 : decode cX3_positive 1 = .ok (.aload_n 0, 1) := by decide +kernel
theorem dX3_positive_2 : decode cX3_positive 2 = .ok (.getfield 22, 3) := by decide +kernel
theorem dX3_positive_5 : decode cX3_positive 5 = .ok (.invokevirtual 26, 3) := by decide +kernel
theorem dX3_positive_8 : decode cX3_positive 8 = .ok (.invokevirtual 32, 3) := by decide +kernel
theorem dX3_positive_11 : decode cX3_positive 11 = .ok (.ireturn, 1) := by decide +kernel
theorem dX3_sure_0 : decode cX3_sure 0 = .ok (.aload_n 0, 1) := by decide +kernel
theorem dX3_sure_1 : decode cX3_sure 1 = .ok (.getfield 22, 3) := by decide +kernel
theorem dX3_sure_4 : decode cX3_sure 4 = .ok (.invokevirtual 26, 3) := by decide +kernel
theorem dX3_sure_7 : decode cX3_sure 7 = .ok (.istore_n 1, 1) := by decide +kernel
theorem dX3_sure_8 : decode cX3_sure 8 = .ok (.iconst 0, 1) := by decide +kernel
theorem dX3_sure_9 : decode cX3_sure 9 = .ok (.istore_n 2, 1) := by decide +kernel
theorem dX3_sure_10 : decode cX3_sure 10 = .ok (.iload_n 2, 1) := by decide +kernel
theorem dX3_sure_11 : decode cX3_sure 11 = .ok (.aload_n 0, 1) := by decide +kernel
theorem dX3_sure_12 : decode cX3_sure 12 = .ok (.getfield 22, 3) := by decide +kernel
theorem dX3_sure_15 : decode cX3_sure 15 = .ok (.getfield 36, 3) := by decide +kernel
theorem dX3_sure_18 : decode cX3_sure 18 = .ok (.if_icmp .ge 15, 3) := by decide +kernel
theorem dX3_sure_21 : decode cX3_sure 21 = .ok (.aload_n 0, 1) := by decide +kernel
theorem dX3_sure_22 : decode cX3_sure 22 = .ok (.iload_n 1, 1) := by decide +kernel
theorem dX3_sure_23 : decode cX3_sure 23 = .ok (.invokevirtual 32, 3) := by decide +kernel
theorem dX3_sure_26 : decode cX3_sure 26 = .ok (.istore_n 1, 1) := by decide +kernel
theorem dX3_sure_27 : decode cX3_sure 27 = .ok (.iinc 2 1, 3) := by decide +kernel
theorem dX3_sure_30 : decode cX3_sure 30 = .ok (.goto (-20), 3) := by decide +kernel
theorem dX3_sure_33 : decode cX3_sure 33 = .ok (.iload_n 1, 1) := by decide +kernel
theorem dX3_sure_34 : decode cX3_sure 34 = .ok (.ireturn, 1) := by decide +kernel
theorem dX3_drawnWithin_0 : decode cX3_drawnWithin 0 = .ok (.aload_n 0, 1) := by decide +kernel
theorem dX3_drawnWithin_1 : decode cX3_drawnWithin 1 = .ok (.getfield 22, 3) := by decide +kernel
theorem dX3_drawnWithin_4 : decode cX3_drawnWithin 4 = .ok (.getfield 40, 3) := by decide +kernel
theorem dX3_drawnWithin_7 : decode cX3_drawnWithin 7 = .ok (.iload_n 1, 1) := by decide +kernel
theorem dX3_drawnWithin_8 : decode cX3_drawnWithin 8 = .ok (.iand, 1) := by decide +kernel
theorem dX3_drawnWithin_9 : decode cX3_drawnWithin 9 = .ok (.istore_n 2, 1) := by decide +kernel
theorem dX3_drawnWithin_10 : decode cX3_drawnWithin 10 = .ok (.iconst 0, 1) := by decide +kernel
theorem dX3_drawnWithin_11 : decode cX3_drawnWithin 11 = .ok (.istore_n 3, 1) := by decide +kernel
theorem dX3_drawnWithin_12 : decode cX3_drawnWithin 12 = .ok (.iload_n 3, 1) := by decide +kernel
theorem dX3_drawnWithin_13 : decode cX3_drawnWithin 13 = .ok (.aload_n 0, 1) := by decide +kernel
theorem dX3_drawnWithin_14 : decode cX3_drawnWithin 14 = .ok (.getfield 22, 3) := by decide +kernel
theorem dX3_drawnWithin_17 : decode cX3_drawnWithin 17 = .ok (.getfield 36, 3) := by decide +kernel
theorem dX3_drawnWithin_20 : decode cX3_drawnWithin 20 = .ok (.if_icmp .ge 57, 3) := by decide +kernel
theorem dX3_drawnWithin_23 : decode cX3_drawnWithin 23 = .ok (.iconst 0, 1) := by decide +kernel
theorem dX3_drawnWithin_24 : decode cX3_drawnWithin 24 = .ok (.istore 4, 2) := by decide +kernel
theorem dX3_drawnWithin_26 : decode cX3_drawnWithin 26 = .ok (.iload 4, 2) := by decide +kernel
theorem dX3_drawnWithin_28 : decode cX3_drawnWithin 28 = .ok (.aload_n 0, 1) := by decide +kernel
theorem dX3_drawnWithin_29 : decode cX3_drawnWithin 29 = .ok (.getfield 22, 3) := by decide +kernel
theorem dX3_drawnWithin_32 : decode cX3_drawnWithin 32 = .ok (.getfield 36, 3) := by decide +kernel
theorem dX3_drawnWithin_35 : decode cX3_drawnWithin 35 = .ok (.if_icmp .ge 36, 3) := by decide +kernel
theorem dX3_drawnWithin_38 : decode cX3_drawnWithin 38 = .ok (.iload_n 1, 1) := by decide +kernel
theorem dX3_drawnWithin_39 : decode cX3_drawnWithin 39 = .ok (.iload 4, 2) := by decide +kernel
theorem dX3_drawnWithin_41 : decode cX3_drawnWithin 41 = .ok (.invokestatic 43, 3) := by decide +kernel
theorem dX3_drawnWithin_44 : decode cX3_drawnWithin 44 = .ok (.ifCond .eq 21, 3) := by decide +kernel
theorem dX3_drawnWithin_47 : decode cX3_drawnWithin 47 = .ok (.aload_n 0, 1) := by decide +kernel
theorem dX3_drawnWithin_48 : decode cX3_drawnWithin 48 = .ok (.iload 4, 2) := by decide +kernel
theorem dX3_drawnWithin_50 : decode cX3_drawnWithin 50 = .ok (.iload_n 2, 1) := by decide +kernel
theorem dX3_drawnWithin_51 : decode cX3_drawnWithin 51 = .ok (.iload_n 1, 1) := by decide +kernel
theorem dX3_drawnWithin_52 : decode cX3_drawnWithin 52 = .ok (.invokevirtual 47, 3) := by decide +kernel
theorem dX3_drawnWithin_55 : decode cX3_drawnWithin 55 = .ok (.ifCond .eq 10, 3) := by decide +kernel
theorem dX3_drawnWithin_58 : decode cX3_drawnWithin 58 = .ok (.iload_n 2, 1) := by decide +kernel
theorem dX3_drawnWithin_59 : decode cX3_drawnWithin 59 = .ok (.iconst 1, 1) := by decide +kernel
theorem dX3_drawnWithin_60 : decode cX3_drawnWithin 60 = .ok (.iload 4, 2) := by decide +kernel
theorem dX3_drawnWithin_62 : decode cX3_drawnWithin 62 = .ok (.ishl, 1) := by decide +kernel
theorem dX3_drawnWithin_63 : decode cX3_drawnWithin 63 = .ok (.ior, 1) := by decide +kernel
theorem dX3_drawnWithin_64 : decode cX3_drawnWithin 64 = .ok (.istore_n 2, 1) := by decide +kernel
theorem dX3_drawnWithin_65 : decode cX3_drawnWithin 65 = .ok (.iinc 4 1, 3) := by decide +kernel
theorem dX3_drawnWithin_68 : decode cX3_drawnWithin 68 = .ok (.goto (-42), 3) := by decide +kernel
theorem dX3_drawnWithin_71 : decode cX3_drawnWithin 71 = .ok (.iinc 3 1, 3) := by decide +kernel
theorem dX3_drawnWithin_74 : decode cX3_drawnWithin 74 = .ok (.goto (-62), 3) := by decide +kernel
theorem dX3_drawnWithin_77 : decode cX3_drawnWithin 77 = .ok (.iload_n 2, 1) := by decide +kernel
theorem dX3_drawnWithin_78 : decode cX3_drawnWithin 78 = .ok (.ireturn, 1) := by decide +kernel
theorem dX3_isDrawn_0 : decode cX3_isDrawn 0 = .ok (.aload_n 0, 1) := by decide +kernel
theorem dX3_isDrawn_1 : decode cX3_isDrawn 1 = .ok (.getfield 22, 3) := by decide +kernel
theorem dX3_isDrawn_4 : decode cX3_isDrawn 4 = .ok (.getfield 51, 3) := by decide +kernel
theorem dX3_isDrawn_7 : decode cX3_isDrawn 7 = .ok (.iload_n 1, 1) := by decide +kernel
theorem dX3_isDrawn_8 : decode cX3_isDrawn 8 = .ok (.baload, 1) := by decide +kernel
theorem dX3_isDrawn_9 : decode cX3_isDrawn 9 = .ok (.istore 4, 2) := by decide +kernel
theorem dX3_isDrawn_11 : decode cX3_isDrawn 11 = .ok (.iconst 0, 1) := by decide +kernel
theorem dX3_isDrawn_12 : decode cX3_isDrawn 12 = .ok (.istore 5, 2) := by decide +kernel
theorem dX3_isDrawn_14 : decode cX3_isDrawn 14 = .ok (.iload 5, 2) := by decide +kernel
theorem dX3_isDrawn_16 : decode cX3_isDrawn 16 = .ok (.aload_n 0, 1) := by decide +kernel
theorem dX3_isDrawn_17 : decode cX3_isDrawn 17 = .ok (.getfield 22, 3) := by decide +kernel
theorem dX3_isDrawn_20 : decode cX3_isDrawn 20 = .ok (.getfield 55, 3) := by decide +kernel
theorem dX3_isDrawn_23 : decode cX3_isDrawn 23 = .ok (.iload_n 1, 1) := by decide +kernel
theorem dX3_isDrawn_24 : decode cX3_isDrawn 24 = .ok (.iaload, 1) := by decide +kernel
theorem dX3_isDrawn_25 : decode cX3_isDrawn 25 = .ok (.if_icmp .ge 58, 3) := by decide +kernel
theorem dX3_isDrawn_28 : decode cX3_isDrawn 28 = .ok (.aload_n 0, 1) := by decide +kernel
theorem dX3_isDrawn_29 : decode cX3_isDrawn 29 = .ok (.getfield 22, 3) := by decide +kernel
theorem dX3_isDrawn_32 : decode cX3_isDrawn 32 = .ok (.getfield 58, 3) := by decide +kernel
theorem dX3_isDrawn_35 : decode cX3_isDrawn 35 = .ok (.iload_n 1, 1) := by decide +kernel
theorem dX3_isDrawn_36 : decode cX3_isDrawn 36 = .ok (.iload 5, 2) := by decide +kernel
theorem dX3_isDrawn_38 : decode cX3_isDrawn 38 = .ok (.invokestatic 61, 3) := by decide +kernel
theorem dX3_isDrawn_41 : decode cX3_isDrawn 41 = .ok (.iaload, 1) := by decide +kernel
theorem dX3_isDrawn_42 : decode cX3_isDrawn 42 = .ok (.istore 6, 2) := by decide +kernel
theorem dX3_isDrawn_44 : decode cX3_isDrawn 44 = .ok (.iload 6, 2) := by decide +kernel
theorem dX3_isDrawn_46 : decode cX3_isDrawn 46 = .ok (.iload_n 2, 1) := by decide +kernel
theorem dX3_isDrawn_47 : decode cX3_isDrawn 47 = .ok (.iand, 1) := by decide +kernel
theorem dX3_isDrawn_48 : decode cX3_isDrawn 48 = .ok (.ifCond .eq 16, 3) := by decide +kernel
theorem dX3_isDrawn_51 : decode cX3_isDrawn 51 = .ok (.iload 6, 2) := by decide +kernel
theorem dX3_isDrawn_53 : decode cX3_isDrawn 53 = .ok (.iload_n 3, 1) := by decide +kernel
theorem dX3_isDrawn_54 : decode cX3_isDrawn 54 = .ok (.iconst (-1), 1) := by decide +kernel
theorem dX3_isDrawn_55 : decode cX3_isDrawn 55 = .ok (.ixor, 1) := by decide +kernel
theorem dX3_isDrawn_56 : decode cX3_isDrawn 56 = .ok (.iand, 1) := by decide +kernel
theorem dX3_isDrawn_57 : decode cX3_isDrawn 57 = .ok (.ifCond .ne 7, 3) := by decide +kernel
theorem dX3_isDrawn_60 : decode cX3_isDrawn 60 = .ok (.iconst 1, 1) := by decide +kernel
theorem dX3_isDrawn_61 : decode cX3_isDrawn 61 = .ok (.goto 4, 3) := by decide +kernel
theorem dX3_isDrawn_64 : decode cX3_isDrawn 64 = .ok (.iconst 0, 1) := by decide +kernel
theorem dX3_isDrawn_65 : decode cX3_isDrawn 65 = .ok (.istore 7, 2) := by decide +kernel
theorem dX3_isDrawn_67 : decode cX3_isDrawn 67 = .ok (.iload 7, 2) := by decide +kernel
theorem dX3_isDrawn_69 : decode cX3_isDrawn 69 = .ok (.iload 4, 2) := by decide +kernel
theorem dX3_isDrawn_71 : decode cX3_isDrawn 71 = .ok (.if_icmp .ne 6, 3) := by decide +kernel
theorem dX3_isDrawn_74 : decode cX3_isDrawn 74 = .ok (.iload 4, 2) := by decide +kernel
theorem dX3_isDrawn_76 : decode cX3_isDrawn 76 = .ok (.ireturn, 1) := by decide +kernel
theorem dX3_isDrawn_77 : decode cX3_isDrawn 77 = .ok (.iinc 5 1, 3) := by decide +kernel
theorem dX3_isDrawn_80 : decode cX3_isDrawn 80 = .ok (.goto (-66), 3) := by decide +kernel
theorem dX3_isDrawn_83 : decode cX3_isDrawn 83 = .ok (.iload 4, 2) := by decide +kernel
theorem dX3_isDrawn_85 : decode cX3_isDrawn 85 = .ok (.ifCond .ne 7, 3) := by decide +kernel
theorem dX3_isDrawn_88 : decode cX3_isDrawn 88 = .ok (.iconst 1, 1) := by decide +kernel
theorem dX3_isDrawn_89 : decode cX3_isDrawn 89 = .ok (.goto 4, 3) := by decide +kernel
theorem dX3_isDrawn_92 : decode cX3_isDrawn 92 = .ok (.iconst 0, 1) := by decide +kernel
theorem dX3_isDrawn_93 : decode cX3_isDrawn 93 = .ok (.ireturn, 1) := by decide +kernel
theorem dX3_stayAway_0 : decode cX3_stayAway 0 = .ok (.aload_n 0, 1) := by decide +kernel
theorem dX3_stayAway_1 : decode cX3_stayAway 1 = .ok (.getfield 22, 3) := by decide +kernel
theorem dX3_stayAway_4 : decode cX3_stayAway 4 = .ok (.getfield 40, 3) := by decide +kernel
theorem dX3_stayAway_7 : decode cX3_stayAway 7 = .ok (.istore_n 2, 1) := by decide +kernel
theorem dX3_stayAway_8 : decode cX3_stayAway 8 = .ok (.iconst 0, 1) := by decide +kernel
theorem dX3_stayAway_9 : decode cX3_stayAway 9 = .ok (.istore_n 3, 1) := by decide +kernel
theorem dX3_stayAway_10 : decode cX3_stayAway 10 = .ok (.iload_n 3, 1) := by decide +kernel
theorem dX3_stayAway_11 : decode cX3_stayAway 11 = .ok (.aload_n 0, 1) := by decide +kernel
theorem dX3_stayAway_12 : decode cX3_stayAway 12 = .ok (.getfield 22, 3) := by decide +kernel
theorem dX3_stayAway_15 : decode cX3_stayAway 15 = .ok (.getfield 36, 3) := by decide +kernel
theorem dX3_stayAway_18 : decode cX3_stayAway 18 = .ok (.if_icmp .ge 101, 3) := by decide +kernel
theorem dX3_stayAway_21 : decode cX3_stayAway 21 = .ok (.iconst 0, 1) := by decide +kernel
theorem dX3_stayAway_22 : decode cX3_stayAway 22 = .ok (.istore 4, 2) := by decide +kernel
theorem dX3_stayAway_24 : decode cX3_stayAway 24 = .ok (.iload 4, 2) := by decide +kernel
theorem dX3_stayAway_26 : decode cX3_stayAway 26 = .ok (.aload_n 0, 1) := by decide +kernel
theorem dX3_stayAway_27 : decode cX3_stayAway 27 = .ok (.getfield 22, 3) := by decide +kernel
theorem dX3_stayAway_30 : decode cX3_stayAway 30 = .ok (.getfield 36, 3) := by decide +kernel
theorem dX3_stayAway_33 : decode cX3_stayAway 33 = .ok (.if_icmp .ge 80, 3) := by decide +kernel
theorem dX3_stayAway_36 : decode cX3_stayAway 36 = .ok (.aload_n 0, 1) := by decide +kernel
theorem dX3_stayAway_37 : decode cX3_stayAway 37 = .ok (.getfield 22, 3) := by decide +kernel
theorem dX3_stayAway_40 : decode cX3_stayAway 40 = .ok (.getfield 51, 3) := by decide +kernel
theorem dX3_stayAway_43 : decode cX3_stayAway 43 = .ok (.iload 4, 2) := by decide +kernel
theorem dX3_stayAway_45 : decode cX3_stayAway 45 = .ok (.baload, 1) := by decide +kernel
theorem dX3_stayAway_46 : decode cX3_stayAway 46 = .ok (.ifCond .eq 33, 3) := by decide +kernel
theorem dX3_stayAway_49 : decode cX3_stayAway 49 = .ok (.aload_n 0, 1) := by decide +kernel
theorem dX3_stayAway_50 : decode cX3_stayAway 50 = .ok (.getfield 22, 3) := by decide +kernel
theorem dX3_stayAway_53 : decode cX3_stayAway 53 = .ok (.getfield 58, 3) := by decide +kernel
theorem dX3_stayAway_56 : decode cX3_stayAway 56 = .ok (.iload 4, 2) := by decide +kernel
theorem dX3_stayAway_58 : decode cX3_stayAway 58 = .ok (.aload_n 1, 1) := by decide +kernel
theorem dX3_stayAway_59 : decode cX3_stayAway 59 = .ok (.iload 4, 2) := by decide +kernel
theorem dX3_stayAway_61 : decode cX3_stayAway 61 = .ok (.iaload, 1) := by decide +kernel
theorem dX3_stayAway_62 : decode cX3_stayAway 62 = .ok (.invokestatic 61, 3) := by decide +kernel
theorem dX3_stayAway_65 : decode cX3_stayAway 65 = .ok (.iaload, 1) := by decide +kernel
theorem dX3_stayAway_66 : decode cX3_stayAway 66 = .ok (.iload_n 2, 1) := by decide +kernel
theorem dX3_stayAway_67 : decode cX3_stayAway 67 = .ok (.iand, 1) := by decide +kernel
theorem dX3_stayAway_68 : decode cX3_stayAway 68 = .ok (.ifCond .eq 7, 3) := by decide +kernel
theorem dX3_stayAway_71 : decode cX3_stayAway 71 = .ok (.iconst 1, 1) := by decide +kernel
theorem dX3_stayAway_72 : decode cX3_stayAway 72 = .ok (.goto 21, 3) := by decide +kernel
theorem dX3_stayAway_75 : decode cX3_stayAway 75 = .ok (.iconst 0, 1) := by decide +kernel
theorem dX3_stayAway_76 : decode cX3_stayAway 76 = .ok (.goto 17, 3) := by decide +kernel
theorem dX3_stayAway_79 : decode cX3_stayAway 79 = .ok (.aload_n 0, 1) := by decide +kernel
theorem dX3_stayAway_80 : decode cX3_stayAway 80 = .ok (.iload 4, 2) := by decide +kernel
theorem dX3_stayAway_82 : decode cX3_stayAway 82 = .ok (.iload_n 2, 1) := by decide +kernel
theorem dX3_stayAway_83 : decode cX3_stayAway 83 = .ok (.aload_n 0, 1) := by decide +kernel
theorem dX3_stayAway_84 : decode cX3_stayAway 84 = .ok (.getfield 22, 3) := by decide +kernel
theorem dX3_stayAway_87 : decode cX3_stayAway 87 = .ok (.invokevirtual 26, 3) := by decide +kernel
theorem dX3_stayAway_90 : decode cX3_stayAway 90 = .ok (.invokevirtual 47, 3) := by decide +kernel
theorem dX3_stayAway_93 : decode cX3_stayAway 93 = .ok (.istore 5, 2) := by decide +kernel
theorem dX3_stayAway_95 : decode cX3_stayAway 95 = .ok (.iload 5, 2) := by decide +kernel
theorem dX3_stayAway_97 : decode cX3_stayAway 97 = .ok (.ifCond .eq 10, 3) := by decide +kernel
theorem dX3_stayAway_100 : decode cX3_stayAway 100 = .ok (.iload_n 2, 1) := by decide +kernel
theorem dX3_stayAway_101 : decode cX3_stayAway 101 = .ok (.iconst 1, 1) := by decide +kernel
theorem dX3_stayAway_102 : decode cX3_stayAway 102 = .ok (.iload 4, 2) := by decide +kernel
theorem dX3_stayAway_104 : decode cX3_stayAway 104 = .ok (.ishl, 1) := by decide +kernel
theorem dX3_stayAway_105 : decode cX3_stayAway 105 = .ok (.ior, 1) := by decide +kernel
theorem dX3_stayAway_106 : decode cX3_stayAway 106 = .ok (.istore_n 2, 1) := by decide +kernel
theorem dX3_stayAway_107 : decode cX3_stayAway 107 = .ok (.iinc 4 1, 3) := by decide +kernel
theorem dX3_stayAway_110 : decode cX3_stayAway 110 = .ok (.goto (-86), 3) := by decide +kernel
theorem dX3_stayAway_113 : decode cX3_stayAway 113 = .ok (.iinc 3 1, 3) := by decide +kernel
theorem dX3_stayAway_116 : decode cX3_stayAway 116 = .ok (.goto (-106), 3) := by decide +kernel
theorem dX3_stayAway_119 : decode cX3_stayAway 119 = .ok (.iconst 0, 1) := by decide +kernel
theorem dX3_stayAway_120 : decode cX3_stayAway 120 = .ok (.istore_n 3, 1) := by decide +kernel
theorem dX3_stayAway_121 : decode cX3_stayAway 121 = .ok (.iload_n 3, 1) := by decide +kernel
theorem dX3_stayAway_122 : decode cX3_stayAway 122 = .ok (.aload_n 0, 1) := by decide +kernel
theorem dX3_stayAway_123 : decode cX3_stayAway 123 = .ok (.getfield 22, 3) := by decide +kernel
theorem dX3_stayAway_126 : decode cX3_stayAway 126 = .ok (.getfield 36, 3) := by decide +kernel
theorem dX3_stayAway_129 : decode cX3_stayAway 129 = .ok (.if_icmp .ge 38, 3) := by decide +kernel
theorem dX3_stayAway_132 : decode cX3_stayAway 132 = .ok (.aload_n 0, 1) := by decide +kernel
theorem dX3_stayAway_133 : decode cX3_stayAway 133 = .ok (.getfield 22, 3) := by decide +kernel
theorem dX3_stayAway_136 : decode cX3_stayAway 136 = .ok (.getfield 51, 3) := by decide +kernel
theorem dX3_stayAway_139 : decode cX3_stayAway 139 = .ok (.iload_n 3, 1) := by decide +kernel
theorem dX3_stayAway_140 : decode cX3_stayAway 140 = .ok (.baload, 1) := by decide +kernel
theorem dX3_stayAway_141 : decode cX3_stayAway 141 = .ok (.ifCond .ne 20, 3) := by decide +kernel
theorem dX3_stayAway_144 : decode cX3_stayAway 144 = .ok (.iload_n 2, 1) := by decide +kernel
theorem dX3_stayAway_145 : decode cX3_stayAway 145 = .ok (.iload_n 3, 1) := by decide +kernel
theorem dX3_stayAway_146 : decode cX3_stayAway 146 = .ok (.invokestatic 43, 3) := by decide +kernel
theorem dX3_stayAway_149 : decode cX3_stayAway 149 = .ok (.ifCond .ne 12, 3) := by decide +kernel
theorem dX3_stayAway_152 : decode cX3_stayAway 152 = .ok (.aload_n 1, 1) := by decide +kernel
theorem dX3_stayAway_153 : decode cX3_stayAway 153 = .ok (.iload_n 3, 1) := by decide +kernel
theorem dX3_stayAway_154 : decode cX3_stayAway 154 = .ok (.aload_n 0, 1) := by decide +kernel
theorem dX3_stayAway_155 : decode cX3_stayAway 155 = .ok (.iload_n 3, 1) := by decide +kernel
theorem dX3_stayAway_156 : decode cX3_stayAway 156 = .ok (.iload_n 2, 1) := by decide +kernel
theorem dX3_stayAway_157 : decode cX3_stayAway 157 = .ok (.invokevirtual 65, 3) := by decide +kernel
theorem dX3_stayAway_160 : decode cX3_stayAway 160 = .ok (.iastore, 1) := by decide +kernel
theorem dX3_stayAway_161 : decode cX3_stayAway 161 = .ok (.iinc 3 1, 3) := by decide +kernel
theorem dX3_stayAway_164 : decode cX3_stayAway 164 = .ok (.goto (-43), 3) := by decide +kernel
theorem dX3_stayAway_167 : decode cX3_stayAway 167 = .ok (.return_, 1) := by decide +kernel
theorem dX3_choiceWithout_0 : decode cX3_choiceWithout 0 = .ok (.iconst 0, 1) := by decide +kernel
theorem dX3_choiceWithout_1 : decode cX3_choiceWithout 1 = .ok (.istore_n 3, 1) := by decide +kernel
theorem dX3_choiceWithout_2 : decode cX3_choiceWithout 2 = .ok (.iload_n 3, 1) := by decide +kernel
theorem dX3_choiceWithout_3 : decode cX3_choiceWithout 3 = .ok (.aload_n 0, 1) := by decide +kernel
theorem dX3_choiceWithout_4 : decode cX3_choiceWithout 4 = .ok (.getfield 22, 3) := by decide +kernel
theorem dX3_choiceWithout_7 : decode cX3_choiceWithout 7 = .ok (.getfield 55, 3) := by decide +kernel
theorem dX3_choiceWithout_10 : decode cX3_choiceWithout 10 = .ok (.iload_n 1, 1) := by decide +kernel
theorem dX3_choiceWithout_11 : decode cX3_choiceWithout 11 = .ok (.iaload, 1) := by decide +kernel
theorem dX3_choiceWithout_12 : decode cX3_choiceWithout 12 = .ok (.if_icmp .ge 29, 3) := by decide +kernel
theorem dX3_choiceWithout_15 : decode cX3_choiceWithout 15 = .ok (.aload_n 0, 1) := by decide +kernel
theorem dX3_choiceWithout_16 : decode cX3_choiceWithout 16 = .ok (.getfield 22, 3) := by decide +kernel
theorem dX3_choiceWithout_19 : decode cX3_choiceWithout 19 = .ok (.getfield 58, 3) := by decide +kernel
theorem dX3_choiceWithout_22 : decode cX3_choiceWithout 22 = .ok (.iload_n 1, 1) := by decide +kernel
theorem dX3_choiceWithout_23 : decode cX3_choiceWithout 23 = .ok (.iload_n 3, 1) := by decide +kernel
theorem dX3_choiceWithout_24 : decode cX3_choiceWithout 24 = .ok (.invokestatic 61, 3) := by decide +kernel
theorem dX3_choiceWithout_27 : decode cX3_choiceWithout 27 = .ok (.iaload, 1) := by decide +kernel
theorem dX3_choiceWithout_28 : decode cX3_choiceWithout 28 = .ok (.iload_n 2, 1) := by decide +kernel
theorem dX3_choiceWithout_29 : decode cX3_choiceWithout 29 = .ok (.iand, 1) := by decide +kernel
theorem dX3_choiceWithout_30 : decode cX3_choiceWithout 30 = .ok (.ifCond .ne 5, 3) := by decide +kernel
theorem dX3_choiceWithout_33 : decode cX3_choiceWithout 33 = .ok (.iload_n 3, 1) := by decide +kernel
theorem dX3_choiceWithout_34 : decode cX3_choiceWithout 34 = .ok (.ireturn, 1) := by decide +kernel
theorem dX3_choiceWithout_35 : decode cX3_choiceWithout 35 = .ok (.iinc 3 1, 3) := by decide +kernel
theorem dX3_choiceWithout_38 : decode cX3_choiceWithout 38 = .ok (.goto (-36), 3) := by decide +kernel
theorem dX3_choiceWithout_41 : decode cX3_choiceWithout 41 = .ok (.iconst 0, 1) := by decide +kernel
theorem dX3_choiceWithout_42 : decode cX3_choiceWithout 42 = .ok (.ireturn, 1) := by decide +kernel
theorem dX3_follow_0 : decode cX3_follow 0 = .ok (.iconst 0, 1) := by decide +kernel
theorem dX3_follow_1 : decode cX3_follow 1 = .ok (.istore_n 2, 1) := by decide +kernel
theorem dX3_follow_2 : decode cX3_follow 2 = .ok (.iload_n 2, 1) := by decide +kernel
theorem dX3_follow_3 : decode cX3_follow 3 = .ok (.aload_n 0, 1) := by decide +kernel
theorem dX3_follow_4 : decode cX3_follow 4 = .ok (.getfield 22, 3) := by decide +kernel
theorem dX3_follow_7 : decode cX3_follow 7 = .ok (.getfield 36, 3) := by decide +kernel
theorem dX3_follow_10 : decode cX3_follow 10 = .ok (.if_icmp .ge 30, 3) := by decide +kernel
theorem dX3_follow_13 : decode cX3_follow 13 = .ok (.aload_n 0, 1) := by decide +kernel
theorem dX3_follow_14 : decode cX3_follow 14 = .ok (.getfield 9, 3) := by decide +kernel
theorem dX3_follow_17 : decode cX3_follow 17 = .ok (.iload_n 2, 1) := by decide +kernel
theorem dX3_follow_18 : decode cX3_follow 18 = .ok (.aload_n 0, 1) := by decide +kernel
theorem dX3_follow_19 : decode cX3_follow 19 = .ok (.getfield 22, 3) := by decide +kernel
theorem dX3_follow_22 : decode cX3_follow 22 = .ok (.getfield 58, 3) := by decide +kernel
theorem dX3_follow_25 : decode cX3_follow 25 = .ok (.iload_n 2, 1) := by decide +kernel
theorem dX3_follow_26 : decode cX3_follow 26 = .ok (.aload_n 1, 1) := by decide +kernel
theorem dX3_follow_27 : decode cX3_follow 27 = .ok (.iload_n 2, 1) := by decide +kernel
theorem dX3_follow_28 : decode cX3_follow 28 = .ok (.iaload, 1) := by decide +kernel
theorem dX3_follow_29 : decode cX3_follow 29 = .ok (.invokestatic 61, 3) := by decide +kernel
theorem dX3_follow_32 : decode cX3_follow 32 = .ok (.iaload, 1) := by decide +kernel
theorem dX3_follow_33 : decode cX3_follow 33 = .ok (.iastore, 1) := by decide +kernel
theorem dX3_follow_34 : decode cX3_follow 34 = .ok (.iinc 2 1, 3) := by decide +kernel
theorem dX3_follow_37 : decode cX3_follow 37 = .ok (.goto (-35), 3) := by decide +kernel
theorem dX3_follow_40 : decode cX3_follow 40 = .ok (.aload_n 0, 1) := by decide +kernel
theorem dX3_follow_41 : decode cX3_follow 41 = .ok (.invokevirtual 68, 3) := by decide +kernel
theorem dX3_follow_44 : decode cX3_follow 44 = .ok (.return_, 1) := by decide +kernel
theorem dX3_join_0 : decode cX3_join 0 = .ok (.iconst 0, 1) := by decide +kernel
theorem dX3_join_1 : decode cX3_join 1 = .ok (.istore_n 1, 1) := by decide +kernel
theorem dX3_join_2 : decode cX3_join 2 = .ok (.iload_n 1, 1) := by decide +kernel
theorem dX3_join_3 : decode cX3_join 3 = .ok (.aload_n 0, 1) := by decide +kernel
theorem dX3_join_4 : decode cX3_join 4 = .ok (.getfield 22, 3) := by decide +kernel
theorem dX3_join_7 : decode cX3_join 7 = .ok (.getfield 36, 3) := by decide +kernel
theorem dX3_join_10 : decode cX3_join 10 = .ok (.if_icmp .ge 56, 3) := by decide +kernel
theorem dX3_join_13 : decode cX3_join 13 = .ok (.iconst 0, 1) := by decide +kernel
theorem dX3_join_14 : decode cX3_join 14 = .ok (.istore_n 2, 1) := by decide +kernel
theorem dX3_join_15 : decode cX3_join 15 = .ok (.iload_n 2, 1) := by decide +kernel
theorem dX3_join_16 : decode cX3_join 16 = .ok (.aload_n 0, 1) := by decide +kernel
theorem dX3_join_17 : decode cX3_join 17 = .ok (.getfield 22, 3) := by decide +kernel
theorem dX3_join_20 : decode cX3_join 20 = .ok (.getfield 36, 3) := by decide +kernel
theorem dX3_join_23 : decode cX3_join 23 = .ok (.if_icmp .ge 37, 3) := by decide +kernel
theorem dX3_join_26 : decode cX3_join 26 = .ok (.aload_n 0, 1) := by decide +kernel
theorem dX3_join_27 : decode cX3_join 27 = .ok (.getfield 9, 3) := by decide +kernel
theorem dX3_join_30 : decode cX3_join 30 = .ok (.iload_n 2, 1) := by decide +kernel
theorem dX3_join_31 : decode cX3_join 31 = .ok (.iaload, 1) := by decide +kernel
theorem dX3_join_32 : decode cX3_join 32 = .ok (.iload_n 1, 1) := by decide +kernel
theorem dX3_join_33 : decode cX3_join 33 = .ok (.invokestatic 43, 3) := by decide +kernel
theorem dX3_join_36 : decode cX3_join 36 = .ok (.ifCond .eq 18, 3) := by decide +kernel
theorem dX3_join_39 : decode cX3_join 39 = .ok (.aload_n 0, 1) := by decide +kernel
theorem dX3_join_40 : decode cX3_join 40 = .ok (.getfield 9, 3) := by decide +kernel
theorem dX3_join_43 : decode cX3_join 43 = .ok (.iload_n 2, 1) := by decide +kernel
theorem dX3_join_44 : decode cX3_join 44 = .ok (.dup2, 1) := by decide +kernel
theorem dX3_join_45 : decode cX3_join 45 = .ok (.iaload, 1) := by decide +kernel
theorem dX3_join_46 : decode cX3_join 46 = .ok (.aload_n 0, 1) := by decide +kernel
theorem dX3_join_47 : decode cX3_join 47 = .ok (.getfield 9, 3) := by decide +kernel
theorem dX3_join_50 : decode cX3_join 50 = .ok (.iload_n 1, 1) := by decide +kernel
theorem dX3_join_51 : decode cX3_join 51 = .ok (.iaload, 1) := by decide +kernel
theorem dX3_join_52 : decode cX3_join 52 = .ok (.ior, 1) := by decide +kernel
theorem dX3_join_53 : decode cX3_join 53 = .ok (.iastore, 1) := by decide +kernel
theorem dX3_join_54 : decode cX3_join 54 = .ok (.iinc 2 1, 3) := by decide +kernel
theorem dX3_join_57 : decode cX3_join 57 = .ok (.goto (-42), 3) := by decide +kernel
theorem dX3_join_60 : decode cX3_join 60 = .ok (.iinc 1 1, 3) := by decide +kernel
theorem dX3_join_63 : decode cX3_join 63 = .ok (.goto (-61), 3) := by decide +kernel
theorem dX3_join_66 : decode cX3_join 66 = .ok (.return_, 1) := by decide +kernel
theorem dX3_mutual_0 : decode cX3_mutual 0 = .ok (.iconst 0, 1) := by decide +kernel
theorem dX3_mutual_1 : decode cX3_mutual 1 = .ok (.istore_n 2, 1) := by decide +kernel
theorem dX3_mutual_2 : decode cX3_mutual 2 = .ok (.iconst 0, 1) := by decide +kernel
theorem dX3_mutual_3 : decode cX3_mutual 3 = .ok (.istore_n 3, 1) := by decide +kernel
theorem dX3_mutual_4 : decode cX3_mutual 4 = .ok (.iload_n 3, 1) := by decide +kernel
theorem dX3_mutual_5 : decode cX3_mutual 5 = .ok (.aload_n 0, 1) := by decide +kernel
theorem dX3_mutual_6 : decode cX3_mutual 6 = .ok (.getfield 22, 3) := by decide +kernel
theorem dX3_mutual_9 : decode cX3_mutual 9 = .ok (.getfield 36, 3) := by decide +kernel
theorem dX3_mutual_12 : decode cX3_mutual 12 = .ok (.if_icmp .ge 41, 3) := by decide +kernel
theorem dX3_mutual_15 : decode cX3_mutual 15 = .ok (.aload_n 0, 1) := by decide +kernel
theorem dX3_mutual_16 : decode cX3_mutual 16 = .ok (.getfield 9, 3) := by decide +kernel
theorem dX3_mutual_19 : decode cX3_mutual 19 = .ok (.iload_n 1, 1) := by decide +kernel
theorem dX3_mutual_20 : decode cX3_mutual 20 = .ok (.iaload, 1) := by decide +kernel
theorem dX3_mutual_21 : decode cX3_mutual 21 = .ok (.iload_n 3, 1) := by decide +kernel
theorem dX3_mutual_22 : decode cX3_mutual 22 = .ok (.invokestatic 43, 3) := by decide +kernel
theorem dX3_mutual_25 : decode cX3_mutual 25 = .ok (.ifCond .eq 22, 3) := by decide +kernel
theorem dX3_mutual_28 : decode cX3_mutual 28 = .ok (.aload_n 0, 1) := by decide +kernel
theorem dX3_mutual_29 : decode cX3_mutual 29 = .ok (.getfield 9, 3) := by decide +kernel
theorem dX3_mutual_32 : decode cX3_mutual 32 = .ok (.iload_n 3, 1) := by decide +kernel
theorem dX3_mutual_33 : decode cX3_mutual 33 = .ok (.iaload, 1) := by decide +kernel
theorem dX3_mutual_34 : decode cX3_mutual 34 = .ok (.iload_n 1, 1) := by decide +kernel
theorem dX3_mutual_35 : decode cX3_mutual 35 = .ok (.invokestatic 43, 3) := by decide +kernel
theorem dX3_mutual_38 : decode cX3_mutual 38 = .ok (.ifCond .eq 9, 3) := by decide +kernel
theorem dX3_mutual_41 : decode cX3_mutual 41 = .ok (.iload_n 2, 1) := by decide +kernel
theorem dX3_mutual_42 : decode cX3_mutual 42 = .ok (.iconst 1, 1) := by decide +kernel
theorem dX3_mutual_43 : decode cX3_mutual 43 = .ok (.iload_n 3, 1) := by decide +kernel
theorem dX3_mutual_44 : decode cX3_mutual 44 = .ok (.ishl, 1) := by decide +kernel
theorem dX3_mutual_45 : decode cX3_mutual 45 = .ok (.ior, 1) := by decide +kernel
theorem dX3_mutual_46 : decode cX3_mutual 46 = .ok (.istore_n 2, 1) := by decide +kernel
theorem dX3_mutual_47 : decode cX3_mutual 47 = .ok (.iinc 3 1, 3) := by decide +kernel
theorem dX3_mutual_50 : decode cX3_mutual 50 = .ok (.goto (-46), 3) := by decide +kernel
theorem dX3_mutual_53 : decode cX3_mutual 53 = .ok (.iload_n 2, 1) := by decide +kernel
theorem dX3_mutual_54 : decode cX3_mutual 54 = .ok (.ireturn, 1) := by decide +kernel
theorem dX3_closedSet_0 : decode cX3_closedSet 0 = .ok (.aload_n 0, 1) := by decide +kernel
theorem dX3_closedSet_1 : decode cX3_closedSet 1 = .ok (.iload_n 1, 1) := by decide +kernel
theorem dX3_closedSet_2 : decode cX3_closedSet 2 = .ok (.invokevirtual 71, 3) := by decide +kernel
theorem dX3_closedSet_5 : decode cX3_closedSet 5 = .ok (.istore_n 2, 1) := by decide +kernel
theorem dX3_closedSet_6 : decode cX3_closedSet 6 = .ok (.iload_n 2, 1) := by decide +kernel
theorem dX3_closedSet_7 : decode cX3_closedSet 7 = .ok (.aload_n 0, 1) := by decide +kernel
theorem dX3_closedSet_8 : decode cX3_closedSet 8 = .ok (.getfield 9, 3) := by decide +kernel
theorem dX3_closedSet_11 : decode cX3_closedSet 11 = .ok (.iload_n 1, 1) := by decide +kernel
theorem dX3_closedSet_12 : decode cX3_closedSet 12 = .ok (.iaload, 1) := by decide +kernel
theorem dX3_closedSet_13 : decode cX3_closedSet 13 = .ok (.if_icmp .ne 7, 3) := by decide +kernel
theorem dX3_closedSet_16 : decode cX3_closedSet 16 = .ok (.iload_n 2, 1) := by decide +kernel
theorem dX3_closedSet_17 : decode cX3_closedSet 17 = .ok (.goto 4, 3) := by decide +kernel
theorem dX3_closedSet_20 : decode cX3_closedSet 20 = .ok (.iconst 0, 1) := by decide +kernel
theorem dX3_closedSet_21 : decode cX3_closedSet 21 = .ok (.ireturn, 1) := by decide +kernel
theorem dX3_endSet_0 : decode cX3_endSet 0 = .ok (.aload_n 0, 1) := by decide +kernel
theorem dX3_endSet_1 : decode cX3_endSet 1 = .ok (.getfield 22, 3) := by decide +kernel
theorem dX3_endSet_4 : decode cX3_endSet 4 = .ok (.invokevirtual 26, 3) := by decide +kernel
theorem dX3_endSet_7 : decode cX3_endSet 7 = .ok (.istore_n 2, 1) := by decide +kernel
theorem dX3_endSet_8 : decode cX3_endSet 8 = .ok (.iconst 0, 1) := by decide +kernel
theorem dX3_endSet_9 : decode cX3_endSet 9 = .ok (.istore_n 3, 1) := by decide +kernel
theorem dX3_endSet_10 : decode cX3_endSet 10 = .ok (.iload_n 3, 1) := by decide +kernel
theorem dX3_endSet_11 : decode cX3_endSet 11 = .ok (.aload_n 0, 1) := by decide +kernel
theorem dX3_endSet_12 : decode cX3_endSet 12 = .ok (.getfield 22, 3) := by decide +kernel
theorem dX3_endSet_15 : decode cX3_endSet 15 = .ok (.getfield 36, 3) := by decide +kernel
theorem dX3_endSet_18 : decode cX3_endSet 18 = .ok (.if_icmp .gt 67, 3) := by decide +kernel
theorem dX3_endSet_21 : decode cX3_endSet 21 = .ok (.iconst 0, 1) := by decide +kernel
theorem dX3_endSet_22 : decode cX3_endSet 22 = .ok (.istore 4, 2) := by decide +kernel
theorem dX3_endSet_24 : decode cX3_endSet 24 = .ok (.iload 4, 2) := by decide +kernel
theorem dX3_endSet_26 : decode cX3_endSet 26 = .ok (.aload_n 0, 1) := by decide +kernel
theorem dX3_endSet_27 : decode cX3_endSet 27 = .ok (.getfield 22, 3) := by decide +kernel
theorem dX3_endSet_30 : decode cX3_endSet 30 = .ok (.getfield 36, 3) := by decide +kernel
theorem dX3_endSet_33 : decode cX3_endSet 33 = .ok (.if_icmp .ge 36, 3) := by decide +kernel
theorem dX3_endSet_36 : decode cX3_endSet 36 = .ok (.aload_n 0, 1) := by decide +kernel
theorem dX3_endSet_37 : decode cX3_endSet 37 = .ok (.getfield 9, 3) := by decide +kernel
theorem dX3_endSet_40 : decode cX3_endSet 40 = .ok (.iload 4, 2) := by decide +kernel
theorem dX3_endSet_42 : decode cX3_endSet 42 = .ok (.iload_n 2, 1) := by decide +kernel
theorem dX3_endSet_43 : decode cX3_endSet 43 = .ok (.iload 4, 2) := by decide +kernel
theorem dX3_endSet_45 : decode cX3_endSet 45 = .ok (.invokestatic 43, 3) := by decide +kernel
theorem dX3_endSet_48 : decode cX3_endSet 48 = .ok (.ifCond .eq 13, 3) := by decide +kernel
theorem dX3_endSet_51 : decode cX3_endSet 51 = .ok (.aload_n 0, 1) := by decide +kernel
theorem dX3_endSet_52 : decode cX3_endSet 52 = .ok (.iload 4, 2) := by decide +kernel
theorem dX3_endSet_54 : decode cX3_endSet 54 = .ok (.iload_n 2, 1) := by decide +kernel
theorem dX3_endSet_55 : decode cX3_endSet 55 = .ok (.invokevirtual 74, 3) := by decide +kernel
theorem dX3_endSet_58 : decode cX3_endSet 58 = .ok (.goto 4, 3) := by decide +kernel
theorem dX3_endSet_61 : decode cX3_endSet 61 = .ok (.iconst 0, 1) := by decide +kernel
theorem dX3_endSet_62 : decode cX3_endSet 62 = .ok (.iastore, 1) := by decide +kernel
theorem dX3_endSet_63 : decode cX3_endSet 63 = .ok (.iinc 4 1, 3) := by decide +kernel
theorem dX3_endSet_66 : decode cX3_endSet 66 = .ok (.goto (-42), 3) := by decide +kernel
theorem dX3_endSet_69 : decode cX3_endSet 69 = .ok (.aload_n 0, 1) := by decide +kernel
theorem dX3_endSet_70 : decode cX3_endSet 70 = .ok (.invokevirtual 68, 3) := by decide +kernel
theorem dX3_endSet_73 : decode cX3_endSet 73 = .ok (.aload_n 0, 1) := by decide +kernel
theorem dX3_endSet_74 : decode cX3_endSet 74 = .ok (.iload_n 1, 1) := by decide +kernel
theorem dX3_endSet_75 : decode cX3_endSet 75 = .ok (.invokevirtual 71, 3) := by decide +kernel
theorem dX3_endSet_78 : decode cX3_endSet 78 = .ok (.istore_n 2, 1) := by decide +kernel
theorem dX3_endSet_79 : decode cX3_endSet 79 = .ok (.iinc 3 1, 3) := by decide +kernel
theorem dX3_endSet_82 : decode cX3_endSet 82 = .ok (.goto (-72), 3) := by decide +kernel
theorem dX3_endSet_85 : decode cX3_endSet 85 = .ok (.iload_n 2, 1) := by decide +kernel
theorem dX3_endSet_86 : decode cX3_endSet 86 = .ok (.ireturn, 1) := by decide +kernel
theorem dX3_leadsWithin_0 : decode cX3_leadsWithin 0 = .ok (.iconst 0, 1) := by decide +kernel
theorem dX3_leadsWithin_1 : decode cX3_leadsWithin 1 = .ok (.istore_n 3, 1) := by decide +kernel
theorem dX3_leadsWithin_2 : decode cX3_leadsWithin 2 = .ok (.iconst 0, 1) := by decide +kernel
theorem dX3_leadsWithin_3 : decode cX3_leadsWithin 3 = .ok (.istore 4, 2) := by decide +kernel
theorem dX3_leadsWithin_5 : decode cX3_leadsWithin 5 = .ok (.iload 4, 2) := by decide +kernel
theorem dX3_leadsWithin_7 : decode cX3_leadsWithin 7 = .ok (.aload_n 0, 1) := by decide +kernel
theorem dX3_leadsWithin_8 : decode cX3_leadsWithin 8 = .ok (.getfield 22, 3) := by decide +kernel
theorem dX3_leadsWithin_11 : decode cX3_leadsWithin 11 = .ok (.getfield 55, 3) := by decide +kernel
theorem dX3_leadsWithin_14 : decode cX3_leadsWithin 14 = .ok (.iload_n 1, 1) := by decide +kernel
theorem dX3_leadsWithin_15 : decode cX3_leadsWithin 15 = .ok (.iaload, 1) := by decide +kernel
theorem dX3_leadsWithin_16 : decode cX3_leadsWithin 16 = .ok (.if_icmp .ge 39, 3) := by decide +kernel
theorem dX3_leadsWithin_19 : decode cX3_leadsWithin 19 = .ok (.aload_n 0, 1) := by decide +kernel
theorem dX3_leadsWithin_20 : decode cX3_leadsWithin 20 = .ok (.getfield 22, 3) := by decide +kernel
theorem dX3_leadsWithin_23 : decode cX3_leadsWithin 23 = .ok (.getfield 58, 3) := by decide +kernel
theorem dX3_leadsWithin_26 : decode cX3_leadsWithin 26 = .ok (.iload_n 1, 1) := by decide +kernel
theorem dX3_leadsWithin_27 : decode cX3_leadsWithin 27 = .ok (.iload 4, 2) := by decide +kernel
theorem dX3_leadsWithin_29 : decode cX3_leadsWithin 29 = .ok (.invokestatic 61, 3) := by decide +kernel
theorem dX3_leadsWithin_32 : decode cX3_leadsWithin 32 = .ok (.iaload, 1) := by decide +kernel
theorem dX3_leadsWithin_33 : decode cX3_leadsWithin 33 = .ok (.istore 5, 2) := by decide +kernel
theorem dX3_leadsWithin_35 : decode cX3_leadsWithin 35 = .ok (.iload 5, 2) := by decide +kernel
theorem dX3_leadsWithin_37 : decode cX3_leadsWithin 37 = .ok (.iload_n 2, 1) := by decide +kernel
theorem dX3_leadsWithin_38 : decode cX3_leadsWithin 38 = .ok (.iconst (-1), 1) := by decide +kernel
theorem dX3_leadsWithin_39 : decode cX3_leadsWithin 39 = .ok (.ixor, 1) := by decide +kernel
theorem dX3_leadsWithin_40 : decode cX3_leadsWithin 40 = .ok (.iand, 1) := by decide +kernel
theorem dX3_leadsWithin_41 : decode cX3_leadsWithin 41 = .ok (.ifCond .ne 8, 3) := by decide +kernel
theorem dX3_leadsWithin_44 : decode cX3_leadsWithin 44 = .ok (.iload_n 3, 1) := by decide +kernel
theorem dX3_leadsWithin_45 : decode cX3_leadsWithin 45 = .ok (.iload 5, 2) := by decide +kernel
theorem dX3_leadsWithin_47 : decode cX3_leadsWithin 47 = .ok (.ior, 1) := by decide +kernel
theorem dX3_leadsWithin_48 : decode cX3_leadsWithin 48 = .ok (.istore_n 3, 1) := by decide +kernel
theorem dX3_leadsWithin_49 : decode cX3_leadsWithin 49 = .ok (.iinc 4 1, 3) := by decide +kernel
theorem dX3_leadsWithin_52 : decode cX3_leadsWithin 52 = .ok (.goto (-47), 3) := by decide +kernel
theorem dX3_leadsWithin_55 : decode cX3_leadsWithin 55 = .ok (.iload_n 3, 1) := by decide +kernel
theorem dX3_leadsWithin_56 : decode cX3_leadsWithin 56 = .ok (.ireturn, 1) := by decide +kernel
theorem dX3_boundAfter_0 : decode cX3_boundAfter 0 = .ok (.iconst 0, 1) := by decide +kernel
theorem dX3_boundAfter_1 : decode cX3_boundAfter 1 = .ok (.istore_n 3, 1) := by decide +kernel
theorem dX3_boundAfter_2 : decode cX3_boundAfter 2 = .ok (.iload_n 3, 1) := by decide +kernel
theorem dX3_boundAfter_3 : decode cX3_boundAfter 3 = .ok (.aload_n 0, 1) := by decide +kernel
theorem dX3_boundAfter_4 : decode cX3_boundAfter 4 = .ok (.getfield 22, 3) := by decide +kernel
theorem dX3_boundAfter_7 : decode cX3_boundAfter 7 = .ok (.getfield 36, 3) := by decide +kernel
theorem dX3_boundAfter_10 : decode cX3_boundAfter 10 = .ok (.if_icmp .ge 31, 3) := by decide +kernel
theorem dX3_boundAfter_13 : decode cX3_boundAfter 13 = .ok (.aload_n 0, 1) := by decide +kernel
theorem dX3_boundAfter_14 : decode cX3_boundAfter 14 = .ok (.getfield 15, 3) := by decide +kernel
theorem dX3_boundAfter_17 : decode cX3_boundAfter 17 = .ok (.iload_n 3, 1) := by decide +kernel
theorem dX3_boundAfter_18 : decode cX3_boundAfter 18 = .ok (.aload_n 0, 1) := by decide +kernel
theorem dX3_boundAfter_19 : decode cX3_boundAfter 19 = .ok (.getfield 22, 3) := by decide +kernel
theorem dX3_boundAfter_22 : decode cX3_boundAfter 22 = .ok (.iload_n 3, 1) := by decide +kernel
theorem dX3_boundAfter_23 : decode cX3_boundAfter 23 = .ok (.invokevirtual 77, 3) := by decide +kernel
theorem dX3_boundAfter_26 : decode cX3_boundAfter 26 = .ok (.ifCond .eq 7, 3) := by decide +kernel
theorem dX3_boundAfter_29 : decode cX3_boundAfter 29 = .ok (.dconst 1, 1) := by decide +kernel
theorem dX3_boundAfter_30 : decode cX3_boundAfter 30 = .ok (.goto 4, 3) := by decide +kernel
theorem dX3_boundAfter_33 : decode cX3_boundAfter 33 = .ok (.dconst 0, 1) := by decide +kernel
theorem dX3_boundAfter_34 : decode cX3_boundAfter 34 = .ok (.dastore, 1) := by decide +kernel
theorem dX3_boundAfter_35 : decode cX3_boundAfter 35 = .ok (.iinc 3 1, 3) := by decide +kernel
theorem dX3_boundAfter_38 : decode cX3_boundAfter 38 = .ok (.goto (-36), 3) := by decide +kernel
theorem dX3_boundAfter_41 : decode cX3_boundAfter 41 = .ok (.iconst 0, 1) := by decide +kernel
theorem dX3_boundAfter_42 : decode cX3_boundAfter 42 = .ok (.istore_n 3, 1) := by decide +kernel
theorem dX3_boundAfter_43 : decode cX3_boundAfter 43 = .ok (.iload_n 3, 1) := by decide +kernel
theorem dX3_boundAfter_44 : decode cX3_boundAfter 44 = .ok (.iload_n 2, 1) := by decide +kernel
theorem dX3_boundAfter_45 : decode cX3_boundAfter 45 = .ok (.if_icmp .ge 100, 3) := by decide +kernel
theorem dX3_boundAfter_48 : decode cX3_boundAfter 48 = .ok (.iload_n 3, 1) := by decide +kernel
theorem dX3_boundAfter_49 : decode cX3_boundAfter 49 = .ok (.bipush 60, 2) := by decide +kernel
theorem dX3_boundAfter_51 : decode cX3_boundAfter 51 = .ok (.if_icmp .ge 94, 3) := by decide +kernel
theorem dX3_boundAfter_54 : decode cX3_boundAfter 54 = .ok (.iconst 0, 1) := by decide +kernel
theorem dX3_boundAfter_55 : decode cX3_boundAfter 55 = .ok (.istore 4, 2) := by decide +kernel
theorem dX3_boundAfter_57 : decode cX3_boundAfter 57 = .ok (.iload 4, 2) := by decide +kernel
theorem dX3_boundAfter_59 : decode cX3_boundAfter 59 = .ok (.aload_n 0, 1) := by decide +kernel
theorem dX3_boundAfter_60 : decode cX3_boundAfter 60 = .ok (.getfield 22, 3) := by decide +kernel
theorem dX3_boundAfter_63 : decode cX3_boundAfter 63 = .ok (.getfield 36, 3) := by decide +kernel
theorem dX3_boundAfter_66 : decode cX3_boundAfter 66 = .ok (.if_icmp .ge 38, 3) := by decide +kernel
theorem dX3_boundAfter_69 : decode cX3_boundAfter 69 = .ok (.aload_n 0, 1) := by decide +kernel
theorem dX3_boundAfter_70 : decode cX3_boundAfter 70 = .ok (.getfield 19, 3) := by decide +kernel
theorem dX3_boundAfter_73 : decode cX3_boundAfter 73 = .ok (.iload 4, 2) := by decide +kernel
theorem dX3_boundAfter_75 : decode cX3_boundAfter 75 = .ok (.aload_n 0, 1) := by decide +kernel
theorem dX3_boundAfter_76 : decode cX3_boundAfter 76 = .ok (.getfield 22, 3) := by decide +kernel
theorem dX3_boundAfter_79 : decode cX3_boundAfter 79 = .ok (.iload 4, 2) := by decide +kernel
theorem dX3_boundAfter_81 : decode cX3_boundAfter 81 = .ok (.invokevirtual 77, 3) := by decide +kernel
theorem dX3_boundAfter_84 : decode cX3_boundAfter 84 = .ok (.ifCond .eq 7, 3) := by decide +kernel
theorem dX3_boundAfter_87 : decode cX3_boundAfter 87 = .ok (.dconst 1, 1) := by decide +kernel
theorem dX3_boundAfter_88 : decode cX3_boundAfter 88 = .ok (.goto 9, 3) := by decide +kernel
theorem dX3_boundAfter_91 : decode cX3_boundAfter 91 = .ok (.aload_n 0, 1) := by decide +kernel
theorem dX3_boundAfter_92 : decode cX3_boundAfter 92 = .ok (.iload 4, 2) := by decide +kernel
theorem dX3_boundAfter_94 : decode cX3_boundAfter 94 = .ok (.invokevirtual 81, 3) := by decide +kernel
theorem dX3_boundAfter_97 : decode cX3_boundAfter 97 = .ok (.dastore, 1) := by decide +kernel
theorem dX3_boundAfter_98 : decode cX3_boundAfter 98 = .ok (.iinc 4 1, 3) := by decide +kernel
theorem dX3_boundAfter_101 : decode cX3_boundAfter 101 = .ok (.goto (-44), 3) := by decide +kernel
theorem dX3_boundAfter_104 : decode cX3_boundAfter 104 = .ok (.iconst 0, 1) := by decide +kernel
theorem dX3_boundAfter_105 : decode cX3_boundAfter 105 = .ok (.istore 4, 2) := by decide +kernel
theorem dX3_boundAfter_107 : decode cX3_boundAfter 107 = .ok (.iload 4, 2) := by decide +kernel
theorem dX3_boundAfter_109 : decode cX3_boundAfter 109 = .ok (.aload_n 0, 1) := by decide +kernel
theorem dX3_boundAfter_110 : decode cX3_boundAfter 110 = .ok (.getfield 22, 3) := by decide +kernel
theorem dX3_boundAfter_113 : decode cX3_boundAfter 113 = .ok (.getfield 36, 3) := by decide +kernel
theorem dX3_boundAfter_116 : decode cX3_boundAfter 116 = .ok (.if_icmp .ge 23, 3) := by decide +kernel
theorem dX3_boundAfter_119 : decode cX3_boundAfter 119 = .ok (.aload_n 0, 1) := by decide +kernel
theorem dX3_boundAfter_120 : decode cX3_boundAfter 120 = .ok (.getfield 15, 3) := by decide +kernel
theorem dX3_boundAfter_123 : decode cX3_boundAfter 123 = .ok (.iload 4, 2) := by decide +kernel
theorem dX3_boundAfter_125 : decode cX3_boundAfter 125 = .ok (.aload_n 0, 1) := by decide +kernel
theorem dX3_boundAfter_126 : decode cX3_boundAfter 126 = .ok (.getfield 19, 3) := by decide +kernel
theorem dX3_boundAfter_129 : decode cX3_boundAfter 129 = .ok (.iload 4, 2) := by decide +kernel
theorem dX3_boundAfter_131 : decode cX3_boundAfter 131 = .ok (.daload, 1) := by decide +kernel
theorem dX3_boundAfter_132 : decode cX3_boundAfter 132 = .ok (.dastore, 1) := by decide +kernel
theorem dX3_boundAfter_133 : decode cX3_boundAfter 133 = .ok (.iinc 4 1, 3) := by decide +kernel
theorem dX3_boundAfter_136 : decode cX3_boundAfter 136 = .ok (.goto (-29), 3) := by decide +kernel
theorem dX3_boundAfter_139 : decode cX3_boundAfter 139 = .ok (.iinc 3 1, 3) := by decide +kernel
theorem dX3_boundAfter_142 : decode cX3_boundAfter 142 = .ok (.goto (-99), 3) := by decide +kernel
theorem dX3_boundAfter_145 : decode cX3_boundAfter 145 = .ok (.aload_n 0, 1) := by decide +kernel
theorem dX3_boundAfter_146 : decode cX3_boundAfter 146 = .ok (.getfield 15, 3) := by decide +kernel
theorem dX3_boundAfter_149 : decode cX3_boundAfter 149 = .ok (.iload_n 1, 1) := by decide +kernel
theorem dX3_boundAfter_150 : decode cX3_boundAfter 150 = .ok (.daload, 1) := by decide +kernel
theorem dX3_boundAfter_151 : decode cX3_boundAfter 151 = .ok (.dreturn, 1) := by decide +kernel
theorem dX3_nextBound_0 : decode cX3_nextBound 0 = .ok (.aload_n 0, 1) := by decide +kernel
theorem dX3_nextBound_1 : decode cX3_nextBound 1 = .ok (.iload_n 1, 1) := by decide +kernel
theorem dX3_nextBound_2 : decode cX3_nextBound 2 = .ok (.iconst 0, 1) := by decide +kernel
theorem dX3_nextBound_3 : decode cX3_nextBound 3 = .ok (.invokestatic 61, 3) := by decide +kernel
theorem dX3_nextBound_6 : decode cX3_nextBound 6 = .ok (.invokevirtual 85, 3) := by decide +kernel
theorem dX3_nextBound_9 : decode cX3_nextBound 9 = .ok (.dstore_n 2, 1) := by decide +kernel
theorem dX3_nextBound_10 : decode cX3_nextBound 10 = .ok (.iconst 1, 1) := by decide +kernel
theorem dX3_nextBound_11 : decode cX3_nextBound 11 = .ok (.istore 4, 2) := by decide +kernel
theorem dX3_nextBound_13 : decode cX3_nextBound 13 = .ok (.iload 4, 2) := by decide +kernel
theorem dX3_nextBound_15 : decode cX3_nextBound 15 = .ok (.aload_n 0, 1) := by decide +kernel
theorem dX3_nextBound_16 : decode cX3_nextBound 16 = .ok (.getfield 22, 3) := by decide +kernel
theorem dX3_nextBound_19 : decode cX3_nextBound 19 = .ok (.getfield 55, 3) := by decide +kernel
theorem dX3_nextBound_22 : decode cX3_nextBound 22 = .ok (.iload_n 1, 1) := by decide +kernel
theorem dX3_nextBound_23 : decode cX3_nextBound 23 = .ok (.iaload, 1) := by decide +kernel
theorem dX3_nextBound_24 : decode cX3_nextBound 24 = .ok (.if_icmp .ge 53, 3) := by decide +kernel
theorem dX3_nextBound_27 : decode cX3_nextBound 27 = .ok (.aload_n 0, 1) := by decide +kernel
theorem dX3_nextBound_28 : decode cX3_nextBound 28 = .ok (.iload_n 1, 1) := by decide +kernel
theorem dX3_nextBound_29 : decode cX3_nextBound 29 = .ok (.iload 4, 2) := by decide +kernel
theorem dX3_nextBound_31 : decode cX3_nextBound 31 = .ok (.invokestatic 61, 3) := by decide +kernel
theorem dX3_nextBound_34 : decode cX3_nextBound 34 = .ok (.invokevirtual 85, 3) := by decide +kernel
theorem dX3_nextBound_37 : decode cX3_nextBound 37 = .ok (.dstore 5, 2) := by decide +kernel
theorem dX3_nextBound_39 : decode cX3_nextBound 39 = .ok (.aload_n 0, 1) := by decide +kernel
theorem dX3_nextBound_40 : decode cX3_nextBound 40 = .ok (.getfield 22, 3) := by decide +kernel
theorem dX3_nextBound_43 : decode cX3_nextBound 43 = .ok (.getfield 51, 3) := by decide +kernel
theorem dX3_nextBound_46 : decode cX3_nextBound 46 = .ok (.iload_n 1, 1) := by decide +kernel
theorem dX3_nextBound_47 : decode cX3_nextBound 47 = .ok (.baload, 1) := by decide +kernel
theorem dX3_nextBound_48 : decode cX3_nextBound 48 = .ok (.ifCond .eq 13, 3) := by decide +kernel
theorem dX3_nextBound_51 : decode cX3_nextBound 51 = .ok (.dload 5, 2) := by decide +kernel
theorem dX3_nextBound_53 : decode cX3_nextBound 53 = .ok (.dload_n 2, 1) := by decide +kernel
theorem dX3_nextBound_54 : decode cX3_nextBound 54 = .ok (.dcmp .l, 1) := by decide +kernel
theorem dX3_nextBound_55 : decode cX3_nextBound 55 = .ok (.ifCond .le 16, 3) := by decide +kernel
theorem dX3_nextBound_58 : decode cX3_nextBound 58 = .ok (.goto 10, 3) := by decide +kernel
theorem dX3_nextBound_61 : decode cX3_nextBound 61 = .ok (.dload 5, 2) := by decide +kernel
theorem dX3_nextBound_63 : decode cX3_nextBound 63 = .ok (.dload_n 2, 1) := by decide +kernel
theorem dX3_nextBound_64 : decode cX3_nextBound 64 = .ok (.dcmp .g, 1) := by decide +kernel
theorem dX3_nextBound_65 : decode cX3_nextBound 65 = .ok (.ifCond .ge 6, 3) := by decide +kernel
theorem dX3_nextBound_68 : decode cX3_nextBound 68 = .ok (.dload 5, 2) := by decide +kernel
theorem dX3_nextBound_70 : decode cX3_nextBound 70 = .ok (.dstore_n 2, 1) := by decide +kernel
theorem dX3_nextBound_71 : decode cX3_nextBound 71 = .ok (.iinc 4 1, 3) := by decide +kernel
theorem dX3_nextBound_74 : decode cX3_nextBound 74 = .ok (.goto (-61), 3) := by decide +kernel
theorem dX3_nextBound_77 : decode cX3_nextBound 77 = .ok (.dload_n 2, 1) := by decide +kernel
theorem dX3_nextBound_78 : decode cX3_nextBound 78 = .ok (.dreturn, 1) := by decide +kernel
theorem dX3_boundOfMove_0 : decode cX3_boundOfMove 0 = .ok (.aload_n 0, 1) := by decide +kernel
theorem dX3_boundOfMove_1 : decode cX3_boundOfMove 1 = .ok (.getfield 22, 3) := by decide +kernel
theorem dX3_boundOfMove_4 : decode cX3_boundOfMove 4 = .ok (.getfield 88, 3) := by decide +kernel
theorem dX3_boundOfMove_7 : decode cX3_boundOfMove 7 = .ok (.iload_n 1, 1) := by decide +kernel
theorem dX3_boundOfMove_8 : decode cX3_boundOfMove 8 = .ok (.iaload, 1) := by decide +kernel
theorem dX3_boundOfMove_9 : decode cX3_boundOfMove 9 = .ok (.ifCond .ne 5, 3) := by decide +kernel
theorem dX3_boundOfMove_12 : decode cX3_boundOfMove 12 = .ok (.dconst 0, 1) := by decide +kernel
theorem dX3_boundOfMove_13 : decode cX3_boundOfMove 13 = .ok (.dreturn, 1) := by decide +kernel
theorem dX3_boundOfMove_14 : decode cX3_boundOfMove 14 = .ok (.dconst 0, 1) := by decide +kernel
theorem dX3_boundOfMove_15 : decode cX3_boundOfMove 15 = .ok (.dstore_n 2, 1) := by decide +kernel
theorem dX3_boundOfMove_16 : decode cX3_boundOfMove 16 = .ok (.iconst 0, 1) := by decide +kernel
theorem dX3_boundOfMove_17 : decode cX3_boundOfMove 17 = .ok (.istore 4, 2) := by decide +kernel
theorem dX3_boundOfMove_19 : decode cX3_boundOfMove 19 = .ok (.iload 4, 2) := by decide +kernel
theorem dX3_boundOfMove_21 : decode cX3_boundOfMove 21 = .ok (.aload_n 0, 1) := by decide +kernel
theorem dX3_boundOfMove_22 : decode cX3_boundOfMove 22 = .ok (.getfield 22, 3) := by decide +kernel
theorem dX3_boundOfMove_25 : decode cX3_boundOfMove 25 = .ok (.getfield 36, 3) := by decide +kernel
theorem dX3_boundOfMove_28 : decode cX3_boundOfMove 28 = .ok (.if_icmp .ge 33, 3) := by decide +kernel
theorem dX3_boundOfMove_31 : decode cX3_boundOfMove 31 = .ok (.dload_n 2, 1) := by decide +kernel
theorem dX3_boundOfMove_32 : decode cX3_boundOfMove 32 = .ok (.aload_n 0, 1) := by decide +kernel
theorem dX3_boundOfMove_33 : decode cX3_boundOfMove 33 = .ok (.getfield 22, 3) := by decide +kernel
theorem dX3_boundOfMove_36 : decode cX3_boundOfMove 36 = .ok (.getfield 91, 3) := by decide +kernel
theorem dX3_boundOfMove_39 : decode cX3_boundOfMove 39 = .ok (.iload_n 1, 1) := by decide +kernel
theorem dX3_boundOfMove_40 : decode cX3_boundOfMove 40 = .ok (.aaload, 1) := by decide +kernel
theorem dX3_boundOfMove_41 : decode cX3_boundOfMove 41 = .ok (.iload 4, 2) := by decide +kernel
theorem dX3_boundOfMove_43 : decode cX3_boundOfMove 43 = .ok (.iaload, 1) := by decide +kernel
theorem dX3_boundOfMove_44 : decode cX3_boundOfMove 44 = .ok (.i2d, 1) := by decide +kernel
theorem dX3_boundOfMove_45 : decode cX3_boundOfMove 45 = .ok (.aload_n 0, 1) := by decide +kernel
theorem dX3_boundOfMove_46 : decode cX3_boundOfMove 46 = .ok (.getfield 15, 3) := by decide +kernel
theorem dX3_boundOfMove_49 : decode cX3_boundOfMove 49 = .ok (.iload 4, 2) := by decide +kernel
theorem dX3_boundOfMove_51 : decode cX3_boundOfMove 51 = .ok (.daload, 1) := by decide +kernel
theorem dX3_boundOfMove_52 : decode cX3_boundOfMove 52 = .ok (.dmul, 1) := by decide +kernel
theorem dX3_boundOfMove_53 : decode cX3_boundOfMove 53 = .ok (.dadd, 1) := by decide +kernel
theorem dX3_boundOfMove_54 : decode cX3_boundOfMove 54 = .ok (.dstore_n 2, 1) := by decide +kernel
theorem dX3_boundOfMove_55 : decode cX3_boundOfMove 55 = .ok (.iinc 4 1, 3) := by decide +kernel
theorem dX3_boundOfMove_58 : decode cX3_boundOfMove 58 = .ok (.goto (-39), 3) := by decide +kernel
theorem dX3_boundOfMove_61 : decode cX3_boundOfMove 61 = .ok (.dload_n 2, 1) := by decide +kernel
theorem dX3_boundOfMove_62 : decode cX3_boundOfMove 62 = .ok (.aload_n 0, 1) := by decide +kernel
theorem dX3_boundOfMove_63 : decode cX3_boundOfMove 63 = .ok (.getfield 22, 3) := by decide +kernel
theorem dX3_boundOfMove_66 : decode cX3_boundOfMove 66 = .ok (.getfield 88, 3) := by decide +kernel
theorem dX3_boundOfMove_69 : decode cX3_boundOfMove 69 = .ok (.iload_n 1, 1) := by decide +kernel
theorem dX3_boundOfMove_70 : decode cX3_boundOfMove 70 = .ok (.iaload, 1) := by decide +kernel
theorem dX3_boundOfMove_71 : decode cX3_boundOfMove 71 = .ok (.i2d, 1) := by decide +kernel
theorem dX3_boundOfMove_72 : decode cX3_boundOfMove 72 = .ok (.ddiv, 1) := by decide +kernel
theorem dX3_boundOfMove_73 : decode cX3_boundOfMove 73 = .ok (.dreturn, 1) := by decide +kernel
theorem dX4_init_0 : decode cX4_init 0 = .ok (.aload_n 0, 1) := by decide +kernel
theorem dX4_init_1 : decode cX4_init 1 = .ok (.invokespecial 3, 3) := by decide +kernel
theorem dX4_init_4 : decode cX4_init 4 = .ok (.aload_n 0, 1) := by decide +kernel
theorem dX4_init_5 : decode cX4_init 5 = .ok (.bipush 7, 2) := by decide +kernel
theorem dX4_init_7 : decode cX4_init 7 = .ok (.newarray .int, 2) := by decide +kernel
theorem dX4_init_9 : decode cX4_init 9 = .ok (.putfield 9, 3) := by decide +kernel
theorem dX4_init_12 : decode cX4_init 12 = .ok (.aload_n 0, 1) := by decide +kernel
theorem dX4_init_13 : decode cX4_init 13 = .ok (.aload_n 1, 1) := by decide +kernel
theorem dX4_init_14 : decode cX4_init 14 = .ok (.putfield 15, 3) := by decide +kernel
theorem dX4_init_17 : decode cX4_init 17 = .ok (.aload_n 0, 1) := by decide +kernel
theorem dX4_init_18 : decode cX4_init 18 = .ok (.aload_n 2, 1) := by decide +kernel
theorem dX4_init_19 : decode cX4_init 19 = .ok (.putfield 19, 3) := by decide +kernel
theorem dX4_init_22 : decode cX4_init 22 = .ok (.aload_n 0, 1) := by decide +kernel
theorem dX4_init_23 : decode cX4_init 23 = .ok (.aload_n 3, 1) := by decide +kernel
theorem dX4_init_24 : decode cX4_init 24 = .ok (.putfield 23, 3) := by decide +kernel
theorem dX4_init_27 : decode cX4_init 27 = .ok (.return_, 1) := by decide +kernel
theorem dX4_improve_0 : decode cX4_improve 0 = .ok (.iconst 0, 1) := by decide +kernel
theorem dX4_improve_1 : decode cX4_improve 1 = .ok (.istore 5, 2) := by decide +kernel
theorem dX4_improve_3 : decode cX4_improve 3 = .ok (.iload 5, 2) := by decide +kernel
theorem dX4_improve_5 : decode cX4_improve 5 = .ok (.aload_n 0, 1) := by decide +kernel
theorem dX4_improve_6 : decode cX4_improve 6 = .ok (.getfield 15, 3) := by decide +kernel
theorem dX4_improve_9 : decode cX4_improve 9 = .ok (.getfield 27, 3) := by decide +kernel
theorem dX4_improve_12 : decode cX4_improve 12 = .ok (.if_icmp .ge 50, 3) := by decide +kernel
theorem dX4_improve_15 : decode cX4_improve 15 = .ok (.aload_n 0, 1) := by decide +kernel
theorem dX4_improve_16 : decode cX4_improve 16 = .ok (.getfield 15, 3) := by decide +kernel
theorem dX4_improve_19 : decode cX4_improve 19 = .ok (.getfield 33, 3) := by decide +kernel
theorem dX4_improve_22 : decode cX4_improve 22 = .ok (.iload 5, 2) := by decide +kernel
theorem dX4_improve_24 : decode cX4_improve 24 = .ok (.baload, 1) := by decide +kernel
theorem dX4_improve_25 : decode cX4_improve 25 = .ok (.ifCond .eq 7, 3) := by decide +kernel
theorem dX4_improve_28 : decode cX4_improve 28 = .ok (.iload_n 3, 1) := by decide +kernel
theorem dX4_improve_29 : decode cX4_improve 29 = .ok (.goto 5, 3) := by decide +kernel
theorem dX4_improve_32 : decode cX4_improve 32 = .ok (.iload 4, 2) := by decide +kernel
theorem dX4_improve_34 : decode cX4_improve 34 = .ok (.istore 6, 2) := by decide +kernel
theorem dX4_improve_36 : decode cX4_improve 36 = .ok (.aload_n 0, 1) := by decide +kernel
theorem dX4_improve_37 : decode cX4_improve 37 = .ok (.getfield 9, 3) := by decide +kernel
theorem dX4_improve_40 : decode cX4_improve 40 = .ok (.iload 5, 2) := by decide +kernel
theorem dX4_improve_42 : decode cX4_improve 42 = .ok (.iload 6, 2) := by decide +kernel
theorem dX4_improve_44 : decode cX4_improve 44 = .ok (.ifCond .eq 7, 3) := by decide +kernel
theorem dX4_improve_47 : decode cX4_improve 47 = .ok (.iconst 0, 1) := by decide +kernel
theorem dX4_improve_48 : decode cX4_improve 48 = .ok (.goto 7, 3) := by decide +kernel
theorem dX4_improve_51 : decode cX4_improve 51 = .ok (.aload_n 2, 1) := by decide +kernel
theorem dX4_improve_52 : decode cX4_improve 52 = .ok (.iload 5, 2) := by decide +kernel
theorem dX4_improve_54 : decode cX4_improve 54 = .ok (.iaload, 1) := by decide +kernel
theorem dX4_improve_55 : decode cX4_improve 55 = .ok (.iastore, 1) := by decide +kernel
theorem dX4_improve_56 : decode cX4_improve 56 = .ok (.iinc 5 1, 3) := by decide +kernel
theorem dX4_improve_59 : decode cX4_improve 59 = .ok (.goto (-56), 3) := by decide +kernel
theorem dX4_improve_62 : decode cX4_improve 62 = .ok (.aload_n 0, 1) := by decide +kernel
theorem dX4_improve_63 : decode cX4_improve 63 = .ok (.getfield 23, 3) := by decide +kernel
theorem dX4_improve_66 : decode cX4_improve 66 = .ok (.invokevirtual 37, 3) := by decide +kernel
theorem dX4_improve_69 : decode cX4_improve 69 = .ok (.iconst 1, 1) := by decide +kernel
theorem dX4_improve_70 : decode cX4_improve 70 = .ok (.istore 5, 2) := by decide +kernel
theorem dX4_improve_72 : decode cX4_improve 72 = .ok (.iconst 0, 1) := by decide +kernel
theorem dX4_improve_73 : decode cX4_improve 73 = .ok (.istore 6, 2) := by decide +kernel
theorem dX4_improve_75 : decode cX4_improve 75 = .ok (.iload 5, 2) := by decide +kernel
theorem dX4_improve_77 : decode cX4_improve 77 = .ok (.ifCond .eq 44, 3) := by decide +kernel
theorem dX4_improve_80 : decode cX4_improve 80 = .ok (.iload 6, 2) := by decide +kernel
theorem dX4_improve_82 : decode cX4_improve 82 = .ok (.sipush 2187, 3) := by decide +kernel
theorem dX4_improve_85 : decode cX4_improve 85 = .ok (.if_icmp .ge 36, 3) := by decide +kernel
theorem dX4_improve_88 : decode cX4_improve 88 = .ok (.aload_n 0, 1) := by decide +kernel
theorem dX4_improve_89 : decode cX4_improve 89 = .ok (.iload_n 1, 1) := by decide +kernel
theorem dX4_improve_90 : decode cX4_improve 90 = .ok (.iload 4, 2) := by decide +kernel
theorem dX4_improve_92 : decode cX4_improve 92 = .ok (.invokevirtual 42, 3) := by decide +kernel
theorem dX4_improve_95 : decode cX4_improve 95 = .ok (.iload_n 3, 1) := by decide +kernel
theorem dX4_improve_96 : decode cX4_improve 96 = .ok (.ifCond .eq 16, 3) := by decide +kernel
theorem dX4_improve_99 : decode cX4_improve 99 = .ok (.aload_n 0, 1) := by decide +kernel
theorem dX4_improve_100 : decode cX4_improve 100 = .ok (.iload_n 1, 1) := by decide +kernel
theorem dX4_improve_101 : decode cX4_improve 101 = .ok (.iconst 1, 1) := by decide +kernel
theorem dX4_improve_102 : decode cX4_improve 102 = .ok (.invokevirtual 46, 3) := by decide +kernel
theorem dX4_improve_105 : decode cX4_improve 105 = .ok (.ifCond .eq 7, 3) := by decide +kernel
theorem dX4_improve_108 : decode cX4_improve 108 = .ok (.iconst 1, 1) := by decide +kernel
theorem dX4_improve_109 : decode cX4_improve 109 = .ok (.goto 4, 3) := by decide +kernel
theorem dX4_improve_112 : decode cX4_improve 112 = .ok (.iconst 0, 1) := by decide +kernel
theorem dX4_improve_113 : decode cX4_improve 113 = .ok (.istore 5, 2) := by decide +kernel
theorem dX4_improve_115 : decode cX4_improve 115 = .ok (.iinc 6 1, 3) := by decide +kernel
theorem dX4_improve_118 : decode cX4_improve 118 = .ok (.goto (-43), 3) := by decide +kernel
theorem dX4_improve_121 : decode cX4_improve 121 = .ok (.return_, 1) := by decide +kernel
theorem dX4_respond_0 : decode cX4_respond 0 = .ok (.iload_n 1, 1) := by decide +kernel
theorem dX4_respond_1 : decode cX4_respond 1 = .ok (.bipush 114, 2) := by decide +kernel
theorem dX4_respond_3 : decode cX4_respond 3 = .ok (.if_icmp .ne 18, 3) := by decide +kernel
theorem dX4_respond_6 : decode cX4_respond 6 = .ok (.iload_n 2, 1) := by decide +kernel
theorem dX4_respond_7 : decode cX4_respond 7 = .ok (.ifCond .eq 14, 3) := by decide +kernel
theorem dX4_respond_10 : decode cX4_respond 10 = .ok (.aload_n 0, 1) := by decide +kernel
theorem dX4_respond_11 : decode cX4_respond 11 = .ok (.getfield 19, 3) := by decide +kernel
theorem dX4_respond_14 : decode cX4_respond 14 = .ok (.aload_n 0, 1) := by decide +kernel
theorem dX4_respond_15 : decode cX4_respond 15 = .ok (.getfield 9, 3) := by decide +kernel
theorem dX4_respond_18 : decode cX4_respond 18 = .ok (.invokevirtual 50, 3) := by decide +kernel
theorem dX4_respond_21 : decode cX4_respond 21 = .ok (.iconst 1, 1) := by decide +kernel
theorem dX4_respond_22 : decode cX4_respond 22 = .ok (.istore_n 3, 1) := by decide +kernel
theorem dX4_respond_23 : decode cX4_respond 23 = .ok (.iconst 0, 1) := by decide +kernel
theorem dX4_respond_24 : decode cX4_respond 24 = .ok (.istore 4, 2) := by decide +kernel
theorem dX4_respond_26 : decode cX4_respond 26 = .ok (.iload_n 3, 1) := by decide +kernel
theorem dX4_respond_27 : decode cX4_respond 27 = .ok (.ifCond .eq 49, 3) := by decide +kernel
theorem dX4_respond_30 : decode cX4_respond 30 = .ok (.iload 4, 2) := by decide +kernel
theorem dX4_respond_32 : decode cX4_respond 32 = .ok (.sipush 2187, 3) := by decide +kernel
theorem dX4_respond_35 : decode cX4_respond 35 = .ok (.if_icmp .ge 41, 3) := by decide +kernel
theorem dX4_respond_38 : decode cX4_respond 38 = .ok (.aload_n 0, 1) := by decide +kernel
theorem dX4_respond_39 : decode cX4_respond 39 = .ok (.getfield 23, 3) := by decide +kernel
theorem dX4_respond_42 : decode cX4_respond 42 = .ok (.iload_n 1, 1) := by decide +kernel
theorem dX4_respond_43 : decode cX4_respond 43 = .ok (.aload_n 0, 1) := by decide +kernel
theorem dX4_respond_44 : decode cX4_respond 44 = .ok (.getfield 9, 3) := by decide +kernel
theorem dX4_respond_47 : decode cX4_respond 47 = .ok (.iconst 0, 1) := by decide +kernel
theorem dX4_respond_48 : decode cX4_respond 48 = .ok (.invokevirtual 56, 3) := by decide +kernel
theorem dX4_respond_51 : decode cX4_respond 51 = .ok (.iload_n 2, 1) := by decide +kernel
theorem dX4_respond_52 : decode cX4_respond 52 = .ok (.ifCond .eq 16, 3) := by decide +kernel
theorem dX4_respond_55 : decode cX4_respond 55 = .ok (.aload_n 0, 1) := by decide +kernel
theorem dX4_respond_56 : decode cX4_respond 56 = .ok (.iload_n 1, 1) := by decide +kernel
theorem dX4_respond_57 : decode cX4_respond 57 = .ok (.iconst 0, 1) := by decide +kernel
theorem dX4_respond_58 : decode cX4_respond 58 = .ok (.invokevirtual 46, 3) := by decide +kernel
theorem dX4_respond_61 : decode cX4_respond 61 = .ok (.ifCond .eq 7, 3) := by decide +kernel
theorem dX4_respond_64 : decode cX4_respond 64 = .ok (.iconst 1, 1) := by decide +kernel
theorem dX4_respond_65 : decode cX4_respond 65 = .ok (.goto 4, 3) := by decide +kernel
theorem dX4_respond_68 : decode cX4_respond 68 = .ok (.iconst 0, 1) := by decide +kernel
theorem dX4_respond_69 : decode cX4_respond 69 = .ok (.istore_n 3, 1) := by decide +kernel
theorem dX4_respond_70 : decode cX4_respond 70 = .ok (.iinc 4 1, 3) := by decide +kernel
theorem dX4_respond_73 : decode cX4_respond 73 = .ok (.goto (-47), 3) := by decide +kernel
theorem dX4_respond_76 : decode cX4_respond 76 = .ok (.return_, 1) := by decide +kernel
theorem dX4_change_0 : decode cX4_change 0 = .ok (.iconst 0, 1) := by decide +kernel
theorem dX4_change_1 : decode cX4_change 1 = .ok (.istore_n 3, 1) := by decide +kernel
theorem dX4_change_2 : decode cX4_change 2 = .ok (.iconst 0, 1) := by decide +kernel
theorem dX4_change_3 : decode cX4_change 3 = .ok (.istore 4, 2) := by decide +kernel
theorem dX4_change_5 : decode cX4_change 5 = .ok (.iload 4, 2) := by decide +kernel
theorem dX4_change_7 : decode cX4_change 7 = .ok (.aload_n 0, 1) := by decide +kernel
theorem dX4_change_8 : decode cX4_change 8 = .ok (.getfield 15, 3) := by decide +kernel
theorem dX4_change_11 : decode cX4_change 11 = .ok (.getfield 27, 3) := by decide +kernel
theorem dX4_change_14 : decode cX4_change 14 = .ok (.if_icmp .ge 182, 3) := by decide +kernel
theorem dX4_change_17 : decode cX4_change 17 = .ok (.aload_n 0, 1) := by decide +kernel
theorem dX4_change_18 : decode cX4_change 18 = .ok (.getfield 15, 3) := by decide +kernel
theorem dX4_change_21 : decode cX4_change 21 = .ok (.getfield 33, 3) := by decide +kernel
theorem dX4_change_24 : decode cX4_change 24 = .ok (.iload 4, 2) := by decide +kernel
theorem dX4_change_26 : decode cX4_change 26 = .ok (.baload, 1) := by decide +kernel
theorem dX4_change_27 : decode cX4_change 27 = .ok (.iload_n 2, 1) := by decide +kernel
theorem dX4_change_28 : decode cX4_change 28 = .ok (.if_icmp .ne 25, 3) := by decide +kernel
theorem dX4_change_31 : decode cX4_change 31 = .ok (.iload_n 1, 1) := by decide +kernel
theorem dX4_change_32 : decode cX4_change 32 = .ok (.bipush 114, 2) := by decide +kernel
theorem dX4_change_34 : decode cX4_change 34 = .ok (.if_icmp .ne 15, 3) := by decide +kernel
theorem dX4_change_37 : decode cX4_change 37 = .ok (.aload_n 0, 1) := by decide +kernel
theorem dX4_change_38 : decode cX4_change 38 = .ok (.getfield 15, 3) := by decide +kernel
theorem dX4_change_41 : decode cX4_change 41 = .ok (.iload 4, 2) := by decide +kernel
theorem dX4_change_43 : decode cX4_change 43 = .ok (.invokevirtual 60, 3) := by decide +kernel
theorem dX4_change_46 : decode cX4_change 46 = .ok (.ifCond .ne 7, 3) := by decide +kernel
theorem dX4_change_49 : decode cX4_change 49 = .ok (.iconst 1, 1) := by decide +kernel
theorem dX4_change_50 : decode cX4_change 50 = .ok (.goto 4, 3) := by decide +kernel
theorem dX4_change_53 : decode cX4_change 53 = .ok (.iconst 0, 1) := by decide +kernel
theorem dX4_change_54 : decode cX4_change 54 = .ok (.istore 5, 2) := by decide +kernel
theorem dX4_change_56 : decode cX4_change 56 = .ok (.iconst 0, 1) := by decide +kernel
theorem dX4_change_57 : decode cX4_change 57 = .ok (.istore 6, 2) := by decide +kernel
theorem dX4_change_59 : decode cX4_change 59 = .ok (.iload 5, 2) := by decide +kernel
theorem dX4_change_61 : decode cX4_change 61 = .ok (.ifCond .eq 129, 3) := by decide +kernel
theorem dX4_change_64 : decode cX4_change 64 = .ok (.iload 6, 2) := by decide +kernel
theorem dX4_change_66 : decode cX4_change 66 = .ok (.aload_n 0, 1) := by decide +kernel
theorem dX4_change_67 : decode cX4_change 67 = .ok (.getfield 15, 3) := by decide +kernel
theorem dX4_change_70 : decode cX4_change 70 = .ok (.getfield 64, 3) := by decide +kernel
theorem dX4_change_73 : decode cX4_change 73 = .ok (.iload 4, 2) := by decide +kernel
theorem dX4_change_75 : decode cX4_change 75 = .ok (.iaload, 1) := by decide +kernel
theorem dX4_change_76 : decode cX4_change 76 = .ok (.if_icmp .ge 114, 3) := by decide +kernel
theorem dX4_change_79 : decode cX4_change 79 = .ok (.iload 4, 2) := by decide +kernel
theorem dX4_change_81 : decode cX4_change 81 = .ok (.iload 6, 2) := by decide +kernel
theorem dX4_change_83 : decode cX4_change 83 = .ok (.invokestatic 67, 3) := by decide +kernel
theorem dX4_change_86 : decode cX4_change 86 = .ok (.istore 7, 2) := by decide +kernel
theorem dX4_change_88 : decode cX4_change 88 = .ok (.iload 4, 2) := by decide +kernel
theorem dX4_change_90 : decode cX4_change 90 = .ok (.aload_n 0, 1) := by decide +kernel
theorem dX4_change_91 : decode cX4_change 91 = .ok (.getfield 9, 3) := by decide +kernel
theorem dX4_change_94 : decode cX4_change 94 = .ok (.iload 4, 2) := by decide +kernel
theorem dX4_change_96 : decode cX4_change 96 = .ok (.iaload, 1) := by decide +kernel
theorem dX4_change_97 : decode cX4_change 97 = .ok (.invokestatic 67, 3) := by decide +kernel
theorem dX4_change_100 : decode cX4_change 100 = .ok (.istore 8, 2) := by decide +kernel
theorem dX4_change_102 : decode cX4_change 102 = .ok (.aload_n 0, 1) := by decide +kernel
theorem dX4_change_103 : decode cX4_change 103 = .ok (.getfield 23, 3) := by decide +kernel
theorem dX4_change_106 : decode cX4_change 106 = .ok (.iload_n 1, 1) := by decide +kernel
theorem dX4_change_107 : decode cX4_change 107 = .ok (.iload 7, 2) := by decide +kernel
theorem dX4_change_109 : decode cX4_change 109 = .ok (.invokevirtual 71, 3) := by decide +kernel
theorem dX4_change_112 : decode cX4_change 112 = .ok (.aload_n 0, 1) := by decide +kernel
theorem dX4_change_113 : decode cX4_change 113 = .ok (.getfield 15, 3) := by decide +kernel
theorem dX4_change_116 : decode cX4_change 116 = .ok (.getfield 75, 3) := by decide +kernel
theorem dX4_change_119 : decode cX4_change 119 = .ok (.iload 8, 2) := by decide +kernel
theorem dX4_change_121 : decode cX4_change 121 = .ok (.iaload, 1) := by decide +kernel
theorem dX4_change_122 : decode cX4_change 122 = .ok (.i2l, 1) := by decide +kernel
theorem dX4_change_123 : decode cX4_change 123 = .ok (.lmul, 1) := by decide +kernel
theorem dX4_change_124 : decode cX4_change 124 = .ok (.lstore 9, 2) := by decide +kernel
theorem dX4_change_126 : decode cX4_change 126 = .ok (.aload_n 0, 1) := by decide +kernel
theorem dX4_change_127 : decode cX4_change 127 = .ok (.getfield 23, 3) := by decide +kernel
theorem dX4_change_130 : decode cX4_change 130 = .ok (.iload_n 1, 1) := by decide +kernel
theorem dX4_change_131 : decode cX4_change 131 = .ok (.iload 8, 2) := by decide +kernel
theorem dX4_change_133 : decode cX4_change 133 = .ok (.invokevirtual 71, 3) := by decide +kernel
theorem dX4_change_136 : decode cX4_change 136 = .ok (.aload_n 0, 1) := by decide +kernel
theorem dX4_change_137 : decode cX4_change 137 = .ok (.getfield 15, 3) := by decide +kernel
theorem dX4_change_140 : decode cX4_change 140 = .ok (.getfield 75, 3) := by decide +kernel
theorem dX4_change_143 : decode cX4_change 143 = .ok (.iload 7, 2) := by decide +kernel
theorem dX4_change_145 : decode cX4_change 145 = .ok (.iaload, 1) := by decide +kernel
theorem dX4_change_146 : decode cX4_change 146 = .ok (.i2l, 1) := by decide +kernel
theorem dX4_change_147 : decode cX4_change 147 = .ok (.lmul, 1) := by decide +kernel
theorem dX4_change_148 : decode cX4_change 148 = .ok (.lstore 11, 2) := by decide +kernel
theorem dX4_change_150 : decode cX4_change 150 = .ok (.iload_n 2, 1) := by decide +kernel
theorem dX4_change_151 : decode cX4_change 151 = .ok (.ifCond .eq 14, 3) := by decide +kernel
theorem dX4_change_154 : decode cX4_change 154 = .ok (.lload 9, 2) := by decide +kernel
theorem dX4_change_156 : decode cX4_change 156 = .ok (.lload 11, 2) := by decide +kernel
theorem dX4_change_158 : decode cX4_change 158 = .ok (.lcmp, 1) := by decide +kernel
theorem dX4_change_159 : decode cX4_change 159 = .ok (.ifCond .le 25, 3) := by decide +kernel
theorem dX4_change_162 : decode cX4_change 162 = .ok (.goto 11, 3) := by decide +kernel
theorem dX4_change_165 : decode cX4_change 165 = .ok (.lload 9, 2) := by decide +kernel
theorem dX4_change_167 : decode cX4_change 167 = .ok (.lload 11, 2) := by decide +kernel
theorem dX4_change_169 : decode cX4_change 169 = .ok (.lcmp, 1) := by decide +kernel
theorem dX4_change_170 : decode cX4_change 170 = .ok (.ifCond .ge 14, 3) := by decide +kernel
theorem dX4_change_173 : decode cX4_change 173 = .ok (.aload_n 0, 1) := by decide +kernel
theorem dX4_change_174 : decode cX4_change 174 = .ok (.getfield 9, 3) := by decide +kernel
theorem dX4_change_177 : decode cX4_change 177 = .ok (.iload 4, 2) := by decide +kernel
theorem dX4_change_179 : decode cX4_change 179 = .ok (.iload 6, 2) := by decide +kernel
theorem dX4_change_181 : decode cX4_change 181 = .ok (.iastore, 1) := by decide +kernel
theorem dX4_change_182 : decode cX4_change 182 = .ok (.iconst 1, 1) := by decide +kernel
theorem dX4_change_183 : decode cX4_change 183 = .ok (.istore_n 3, 1) := by decide +kernel
theorem dX4_change_184 : decode cX4_change 184 = .ok (.iinc 6 1, 3) := by decide +kernel
theorem dX4_change_187 : decode cX4_change 187 = .ok (.goto (-128), 3) := by decide +kernel
theorem dX4_change_190 : decode cX4_change 190 = .ok (.iinc 4 1, 3) := by decide +kernel
theorem dX4_change_193 : decode cX4_change 193 = .ok (.goto (-188), 3) := by decide +kernel
theorem dX4_change_196 : decode cX4_change 196 = .ok (.iload_n 3, 1) := by decide +kernel
theorem dX4_change_197 : decode cX4_change 197 = .ok (.ireturn, 1) := by decide +kernel
theorem dX5_init_0 : decode cX5_init 0 = .ok (.aload_n 0, 1) := by decide +kernel
theorem dX5_init_1 : decode cX5_init 1 = .ok (.invokespecial 3, 3) := by decide +kernel
theorem dX5_init_4 : decode cX5_init 4 = .ok (.aload_n 0, 1) := by decide +kernel
theorem dX5_init_5 : decode cX5_init 5 = .ok (.bipush 7, 2) := by decide +kernel
theorem dX5_init_7 : decode cX5_init 7 = .ok (.newarray .int, 2) := by decide +kernel
theorem dX5_init_9 : decode cX5_init 9 = .ok (.putfield 9, 3) := by decide +kernel
theorem dX5_init_12 : decode cX5_init 12 = .ok (.aload_n 0, 1) := by decide +kernel
theorem dX5_init_13 : decode cX5_init 13 = .ok (.bipush 7, 2) := by decide +kernel
theorem dX5_init_15 : decode cX5_init 15 = .ok (.newarray .int, 2) := by decide +kernel
theorem dX5_init_17 : decode cX5_init 17 = .ok (.putfield 15, 3) := by decide +kernel
theorem dX5_init_20 : decode cX5_init 20 = .ok (.aload_n 0, 1) := by decide +kernel
theorem dX5_init_21 : decode cX5_init 21 = .ok (.aload_n 1, 1) := by decide +kernel
theorem dX5_init_22 : decode cX5_init 22 = .ok (.putfield 18, 3) := by decide +kernel
theorem dX5_init_25 : decode cX5_init 25 = .ok (.return_, 1) := by decide +kernel
theorem dX5_sort_0 : decode cX5_sort 0 = .ok (.iconst 0, 1) := by decide +kernel
theorem dX5_sort_1 : decode cX5_sort 1 = .ok (.istore_n 1, 1) := by decide +kernel
theorem dX5_sort_2 : decode cX5_sort 2 = .ok (.iload_n 1, 1) := by decide +kernel
theorem dX5_sort_3 : decode cX5_sort 3 = .ok (.aload_n 0, 1) := by decide +kernel
theorem dX5_sort_4 : decode cX5_sort 4 = .ok (.getfield 18, 3) := by decide +kernel
theorem dX5_sort_7 : decode cX5_sort 7 = .ok (.getfield 22, 3) := by decide +kernel
theorem dX5_sort_10 : decode cX5_sort 10 = .ok (.if_icmp .ge 20, 3) := by decide +kernel
theorem dX5_sort_13 : decode cX5_sort 13 = .ok (.aload_n 0, 1) := by decide +kernel
theorem dX5_sort_14 : decode cX5_sort 14 = .ok (.getfield 9, 3) := by decide +kernel
theorem dX5_sort_17 : decode cX5_sort 17 = .ok (.iload_n 1, 1) := by decide +kernel
theorem dX5_sort_18 : decode cX5_sort 18 = .ok (.aload_n 0, 1) := by decide +kernel
theorem dX5_sort_19 : decode cX5_sort 19 = .ok (.iload_n 1, 1) := by decide +kernel
theorem dX5_sort_20 : decode cX5_sort 20 = .ok (.invokevirtual 28, 3) := by decide +kernel
theorem dX5_sort_23 : decode cX5_sort 23 = .ok (.iastore, 1) := by decide +kernel
theorem dX5_sort_24 : decode cX5_sort 24 = .ok (.iinc 1 1, 3) := by decide +kernel
theorem dX5_sort_27 : decode cX5_sort 27 = .ok (.goto (-25), 3) := by decide +kernel
theorem dX5_sort_30 : decode cX5_sort 30 = .ok (.iconst 0, 1) := by decide +kernel
theorem dX5_sort_31 : decode cX5_sort 31 = .ok (.istore_n 1, 1) := by decide +kernel
theorem dX5_sort_32 : decode cX5_sort 32 = .ok (.iload_n 1, 1) := by decide +kernel
theorem dX5_sort_33 : decode cX5_sort 33 = .ok (.aload_n 0, 1) := by decide +kernel
theorem dX5_sort_34 : decode cX5_sort 34 = .ok (.getfield 18, 3) := by decide +kernel
theorem dX5_sort_37 : decode cX5_sort 37 = .ok (.getfield 22, 3) := by decide +kernel
theorem dX5_sort_40 : decode cX5_sort 40 = .ok (.if_icmp .ge 70, 3) := by decide +kernel
theorem dX5_sort_43 : decode cX5_sort 43 = .ok (.iconst 0, 1) := by decide +kernel
theorem dX5_sort_44 : decode cX5_sort 44 = .ok (.istore_n 2, 1) := by decide +kernel
theorem dX5_sort_45 : decode cX5_sort 45 = .ok (.iload_n 2, 1) := by decide +kernel
theorem dX5_sort_46 : decode cX5_sort 46 = .ok (.aload_n 0, 1) := by decide +kernel
theorem dX5_sort_47 : decode cX5_sort 47 = .ok (.getfield 18, 3) := by decide +kernel
theorem dX5_sort_50 : decode cX5_sort 50 = .ok (.getfield 22, 3) := by decide +kernel
theorem dX5_sort_53 : decode cX5_sort 53 = .ok (.if_icmp .ge 20, 3) := by decide +kernel
theorem dX5_sort_56 : decode cX5_sort 56 = .ok (.aload_n 0, 1) := by decide +kernel
theorem dX5_sort_57 : decode cX5_sort 57 = .ok (.getfield 15, 3) := by decide +kernel
theorem dX5_sort_60 : decode cX5_sort 60 = .ok (.iload_n 2, 1) := by decide +kernel
theorem dX5_sort_61 : decode cX5_sort 61 = .ok (.aload_n 0, 1) := by decide +kernel
theorem dX5_sort_62 : decode cX5_sort 62 = .ok (.iload_n 2, 1) := by decide +kernel
theorem dX5_sort_63 : decode cX5_sort 63 = .ok (.invokevirtual 32, 3) := by decide +kernel
theorem dX5_sort_66 : decode cX5_sort 66 = .ok (.iastore, 1) := by decide +kernel
theorem dX5_sort_67 : decode cX5_sort 67 = .ok (.iinc 2 1, 3) := by decide +kernel
theorem dX5_sort_70 : decode cX5_sort 70 = .ok (.goto (-25), 3) := by decide +kernel
theorem dX5_sort_73 : decode cX5_sort 73 = .ok (.iconst 0, 1) := by decide +kernel
theorem dX5_sort_74 : decode cX5_sort 74 = .ok (.istore_n 2, 1) := by decide +kernel
theorem dX5_sort_75 : decode cX5_sort 75 = .ok (.iload_n 2, 1) := by decide +kernel
theorem dX5_sort_76 : decode cX5_sort 76 = .ok (.aload_n 0, 1) := by decide +kernel
theorem dX5_sort_77 : decode cX5_sort 77 = .ok (.getfield 18, 3) := by decide +kernel
theorem dX5_sort_80 : decode cX5_sort 80 = .ok (.getfield 22, 3) := by decide +kernel
theorem dX5_sort_83 : decode cX5_sort 83 = .ok (.if_icmp .ge 21, 3) := by decide +kernel
theorem dX5_sort_86 : decode cX5_sort 86 = .ok (.aload_n 0, 1) := by decide +kernel
theorem dX5_sort_87 : decode cX5_sort 87 = .ok (.getfield 9, 3) := by decide +kernel
theorem dX5_sort_90 : decode cX5_sort 90 = .ok (.iload_n 2, 1) := by decide +kernel
theorem dX5_sort_91 : decode cX5_sort 91 = .ok (.aload_n 0, 1) := by decide +kernel
theorem dX5_sort_92 : decode cX5_sort 92 = .ok (.getfield 15, 3) := by decide +kernel
theorem dX5_sort_95 : decode cX5_sort 95 = .ok (.iload_n 2, 1) := by decide +kernel
theorem dX5_sort_96 : decode cX5_sort 96 = .ok (.iaload, 1) := by decide +kernel
theorem dX5_sort_97 : decode cX5_sort 97 = .ok (.iastore, 1) := by decide +kernel
theorem dX5_sort_98 : decode cX5_sort 98 = .ok (.iinc 2 1, 3) := by decide +kernel
theorem dX5_sort_101 : decode cX5_sort 101 = .ok (.goto (-26), 3) := by decide +kernel
theorem dX5_sort_104 : decode cX5_sort 104 = .ok (.iinc 1 1, 3) := by decide +kernel
theorem dX5_sort_107 : decode cX5_sort 107 = .ok (.goto (-75), 3) := by decide +kernel
theorem dX5_sort_110 : decode cX5_sort 110 = .ok (.return_, 1) := by decide +kernel
theorem dX5_lowestLook_0 : decode cX5_lowestLook 0 = .ok (.iconst 0, 1) := by decide +kernel
theorem dX5_lowestLook_1 : decode cX5_lowestLook 1 = .ok (.istore_n 2, 1) := by decide +kernel
theorem dX5_lowestLook_2 : decode cX5_lowestLook 2 = .ok (.iload_n 2, 1) := by decide +kernel
theorem dX5_lowestLook_3 : decode cX5_lowestLook 3 = .ok (.iload_n 1, 1) := by decide +kernel
theorem dX5_lowestLook_4 : decode cX5_lowestLook 4 = .ok (.if_icmp .ge 72, 3) := by decide +kernel
theorem dX5_lowestLook_7 : decode cX5_lowestLook 7 = .ok (.aload_n 0, 1) := by decide +kernel
theorem dX5_lowestLook_8 : decode cX5_lowestLook 8 = .ok (.getfield 18, 3) := by decide +kernel
theorem dX5_lowestLook_11 : decode cX5_lowestLook 11 = .ok (.getfield 35, 3) := by decide +kernel
theorem dX5_lowestLook_14 : decode cX5_lowestLook 14 = .ok (.iload_n 2, 1) := by decide +kernel
theorem dX5_lowestLook_15 : decode cX5_lowestLook 15 = .ok (.baload, 1) := by decide +kernel
theorem dX5_lowestLook_16 : decode cX5_lowestLook 16 = .ok (.aload_n 0, 1) := by decide +kernel
theorem dX5_lowestLook_17 : decode cX5_lowestLook 17 = .ok (.getfield 18, 3) := by decide +kernel
theorem dX5_lowestLook_20 : decode cX5_lowestLook 20 = .ok (.getfield 35, 3) := by decide +kernel
theorem dX5_lowestLook_23 : decode cX5_lowestLook 23 = .ok (.iload_n 1, 1) := by decide +kernel
theorem dX5_lowestLook_24 : decode cX5_lowestLook 24 = .ok (.baload, 1) := by decide +kernel
theorem dX5_lowestLook_25 : decode cX5_lowestLook 25 = .ok (.if_icmp .ne 45, 3) := by decide +kernel
theorem dX5_lowestLook_28 : decode cX5_lowestLook 28 = .ok (.aload_n 0, 1) := by decide +kernel
theorem dX5_lowestLook_29 : decode cX5_lowestLook 29 = .ok (.getfield 18, 3) := by decide +kernel
theorem dX5_lowestLook_32 : decode cX5_lowestLook 32 = .ok (.getfield 39, 3) := by decide +kernel
theorem dX5_lowestLook_35 : decode cX5_lowestLook 35 = .ok (.iload_n 2, 1) := by decide +kernel
theorem dX5_lowestLook_36 : decode cX5_lowestLook 36 = .ok (.iaload, 1) := by decide +kernel
theorem dX5_lowestLook_37 : decode cX5_lowestLook 37 = .ok (.aload_n 0, 1) := by decide +kernel
theorem dX5_lowestLook_38 : decode cX5_lowestLook 38 = .ok (.getfield 18, 3) := by decide +kernel
theorem dX5_lowestLook_41 : decode cX5_lowestLook 41 = .ok (.getfield 39, 3) := by decide +kernel
theorem dX5_lowestLook_44 : decode cX5_lowestLook 44 = .ok (.iload_n 1, 1) := by decide +kernel
theorem dX5_lowestLook_45 : decode cX5_lowestLook 45 = .ok (.iaload, 1) := by decide +kernel
theorem dX5_lowestLook_46 : decode cX5_lowestLook 46 = .ok (.if_icmp .ne 24, 3) := by decide +kernel
theorem dX5_lowestLook_49 : decode cX5_lowestLook 49 = .ok (.aload_n 0, 1) := by decide +kernel
theorem dX5_lowestLook_50 : decode cX5_lowestLook 50 = .ok (.getfield 18, 3) := by decide +kernel
theorem dX5_lowestLook_53 : decode cX5_lowestLook 53 = .ok (.iload_n 2, 1) := by decide +kernel
theorem dX5_lowestLook_54 : decode cX5_lowestLook 54 = .ok (.invokevirtual 42, 3) := by decide +kernel
theorem dX5_lowestLook_57 : decode cX5_lowestLook 57 = .ok (.aload_n 0, 1) := by decide +kernel
theorem dX5_lowestLook_58 : decode cX5_lowestLook 58 = .ok (.getfield 18, 3) := by decide +kernel
theorem dX5_lowestLook_61 : decode cX5_lowestLook 61 = .ok (.iload_n 1, 1) := by decide +kernel
theorem dX5_lowestLook_62 : decode cX5_lowestLook 62 = .ok (.invokevirtual 42, 3) := by decide +kernel
theorem dX5_lowestLook_65 : decode cX5_lowestLook 65 = .ok (.if_icmp .ne 5, 3) := by decide +kernel
theorem dX5_lowestLook_68 : decode cX5_lowestLook 68 = .ok (.iload_n 2, 1) := by decide +kernel
theorem dX5_lowestLook_69 : decode cX5_lowestLook 69 = .ok (.ireturn, 1) := by decide +kernel
theorem dX5_lowestLook_70 : decode cX5_lowestLook 70 = .ok (.iinc 2 1, 3) := by decide +kernel
theorem dX5_lowestLook_73 : decode cX5_lowestLook 73 = .ok (.goto (-71), 3) := by decide +kernel
theorem dX5_lowestLook_76 : decode cX5_lowestLook 76 = .ok (.iload_n 1, 1) := by decide +kernel
theorem dX5_lowestLook_77 : decode cX5_lowestLook 77 = .ok (.ireturn, 1) := by decide +kernel
theorem dX5_lowestLike_0 : decode cX5_lowestLike 0 = .ok (.iconst 0, 1) := by decide +kernel
theorem dX5_lowestLike_1 : decode cX5_lowestLike 1 = .ok (.istore_n 2, 1) := by decide +kernel
theorem dX5_lowestLike_2 : decode cX5_lowestLike 2 = .ok (.iload_n 2, 1) := by decide +kernel
theorem dX5_lowestLike_3 : decode cX5_lowestLike 3 = .ok (.iload_n 1, 1) := by decide +kernel
theorem dX5_lowestLike_4 : decode cX5_lowestLike 4 = .ok (.if_icmp .ge 44, 3) := by decide +kernel
theorem dX5_lowestLike_7 : decode cX5_lowestLike 7 = .ok (.aload_n 0, 1) := by decide +kernel
theorem dX5_lowestLike_8 : decode cX5_lowestLike 8 = .ok (.getfield 9, 3) := by decide +kernel
theorem dX5_lowestLike_11 : decode cX5_lowestLike 11 = .ok (.iload_n 2, 1) := by decide +kernel
theorem dX5_lowestLike_12 : decode cX5_lowestLike 12 = .ok (.iaload, 1) := by decide +kernel
theorem dX5_lowestLike_13 : decode cX5_lowestLike 13 = .ok (.aload_n 0, 1) := by decide +kernel
theorem dX5_lowestLike_14 : decode cX5_lowestLike 14 = .ok (.getfield 9, 3) := by decide +kernel
theorem dX5_lowestLike_17 : decode cX5_lowestLike 17 = .ok (.iload_n 1, 1) := by decide +kernel
theorem dX5_lowestLike_18 : decode cX5_lowestLike 18 = .ok (.iaload, 1) := by decide +kernel
theorem dX5_lowestLike_19 : decode cX5_lowestLike 19 = .ok (.if_icmp .ne 23, 3) := by decide +kernel
theorem dX5_lowestLike_22 : decode cX5_lowestLike 22 = .ok (.aload_n 0, 1) := by decide +kernel
theorem dX5_lowestLike_23 : decode cX5_lowestLike 23 = .ok (.iload_n 2, 1) := by decide +kernel
theorem dX5_lowestLike_24 : decode cX5_lowestLike 24 = .ok (.iload_n 1, 1) := by decide +kernel
theorem dX5_lowestLike_25 : decode cX5_lowestLike 25 = .ok (.invokevirtual 46, 3) := by decide +kernel
theorem dX5_lowestLike_28 : decode cX5_lowestLike 28 = .ok (.ifCond .eq 14, 3) := by decide +kernel
theorem dX5_lowestLike_31 : decode cX5_lowestLike 31 = .ok (.aload_n 0, 1) := by decide +kernel
theorem dX5_lowestLike_32 : decode cX5_lowestLike 32 = .ok (.iload_n 1, 1) := by decide +kernel
theorem dX5_lowestLike_33 : decode cX5_lowestLike 33 = .ok (.iload_n 2, 1) := by decide +kernel
theorem dX5_lowestLike_34 : decode cX5_lowestLike 34 = .ok (.invokevirtual 46, 3) := by decide +kernel
theorem dX5_lowestLike_37 : decode cX5_lowestLike 37 = .ok (.ifCond .eq 5, 3) := by decide +kernel
theorem dX5_lowestLike_40 : decode cX5_lowestLike 40 = .ok (.iload_n 2, 1) := by decide +kernel
theorem dX5_lowestLike_41 : decode cX5_lowestLike 41 = .ok (.ireturn, 1) := by decide +kernel
theorem dX5_lowestLike_42 : decode cX5_lowestLike 42 = .ok (.iinc 2 1, 3) := by decide +kernel
theorem dX5_lowestLike_45 : decode cX5_lowestLike 45 = .ok (.goto (-43), 3) := by decide +kernel
theorem dX5_lowestLike_48 : decode cX5_lowestLike 48 = .ok (.iload_n 1, 1) := by decide +kernel
theorem dX5_lowestLike_49 : decode cX5_lowestLike 49 = .ok (.ireturn, 1) := by decide +kernel
theorem dX5_isAnswered_0 : decode cX5_isAnswered 0 = .ok (.iconst 0, 1) := by decide +kernel
theorem dX5_isAnswered_1 : decode cX5_isAnswered 1 = .ok (.istore_n 3, 1) := by decide +kernel
theorem dX5_isAnswered_2 : decode cX5_isAnswered 2 = .ok (.iload_n 3, 1) := by decide +kernel
theorem dX5_isAnswered_3 : decode cX5_isAnswered 3 = .ok (.aload_n 0, 1) := by decide +kernel
theorem dX5_isAnswered_4 : decode cX5_isAnswered 4 = .ok (.getfield 18, 3) := by decide +kernel
theorem dX5_isAnswered_7 : decode cX5_isAnswered 7 = .ok (.getfield 50, 3) := by decide +kernel
theorem dX5_isAnswered_10 : decode cX5_isAnswered 10 = .ok (.iload_n 1, 1) := by decide +kernel
theorem dX5_isAnswered_11 : decode cX5_isAnswered 11 = .ok (.iaload, 1) := by decide +kernel
theorem dX5_isAnswered_12 : decode cX5_isAnswered 12 = .ok (.if_icmp .ge 24, 3) := by decide +kernel
theorem dX5_isAnswered_15 : decode cX5_isAnswered 15 = .ok (.aload_n 0, 1) := by decide +kernel
theorem dX5_isAnswered_16 : decode cX5_isAnswered 16 = .ok (.iload_n 2, 1) := by decide +kernel
theorem dX5_isAnswered_17 : decode cX5_isAnswered 17 = .ok (.iload_n 1, 1) := by decide +kernel
theorem dX5_isAnswered_18 : decode cX5_isAnswered 18 = .ok (.iload_n 3, 1) := by decide +kernel
theorem dX5_isAnswered_19 : decode cX5_isAnswered 19 = .ok (.invokestatic 53, 3) := by decide +kernel
theorem dX5_isAnswered_22 : decode cX5_isAnswered 22 = .ok (.invokevirtual 57, 3) := by decide +kernel
theorem dX5_isAnswered_25 : decode cX5_isAnswered 25 = .ok (.ifCond .ne 5, 3) := by decide +kernel
theorem dX5_isAnswered_28 : decode cX5_isAnswered 28 = .ok (.iconst 0, 1) := by decide +kernel
theorem dX5_isAnswered_29 : decode cX5_isAnswered 29 = .ok (.ireturn, 1) := by decide +kernel
theorem dX5_isAnswered_30 : decode cX5_isAnswered 30 = .ok (.iinc 3 1, 3) := by decide +kernel
theorem dX5_isAnswered_33 : decode cX5_isAnswered 33 = .ok (.goto (-31), 3) := by decide +kernel
theorem dX5_isAnswered_36 : decode cX5_isAnswered 36 = .ok (.iconst 1, 1) := by decide +kernel
theorem dX5_isAnswered_37 : decode cX5_isAnswered 37 = .ok (.ireturn, 1) := by decide +kernel
theorem dX5_hasLike_0 : decode cX5_hasLike 0 = .ok (.iconst 0, 1) := by decide +kernel
theorem dX5_hasLike_1 : decode cX5_hasLike 1 = .ok (.istore_n 3, 1) := by decide +kernel
theorem dX5_hasLike_2 : decode cX5_hasLike 2 = .ok (.iload_n 3, 1) := by decide +kernel
theorem dX5_hasLike_3 : decode cX5_hasLike 3 = .ok (.aload_n 0, 1) := by decide +kernel
theorem dX5_hasLike_4 : decode cX5_hasLike 4 = .ok (.getfield 18, 3) := by decide +kernel
theorem dX5_hasLike_7 : decode cX5_hasLike 7 = .ok (.getfield 50, 3) := by decide +kernel
theorem dX5_hasLike_10 : decode cX5_hasLike 10 = .ok (.iload_n 1, 1) := by decide +kernel
theorem dX5_hasLike_11 : decode cX5_hasLike 11 = .ok (.iaload, 1) := by decide +kernel
theorem dX5_hasLike_12 : decode cX5_hasLike 12 = .ok (.if_icmp .ge 24, 3) := by decide +kernel
theorem dX5_hasLike_15 : decode cX5_hasLike 15 = .ok (.aload_n 0, 1) := by decide +kernel
theorem dX5_hasLike_16 : decode cX5_hasLike 16 = .ok (.iload_n 1, 1) := by decide +kernel
theorem dX5_hasLike_17 : decode cX5_hasLike 17 = .ok (.iload_n 3, 1) := by decide +kernel
theorem dX5_hasLike_18 : decode cX5_hasLike 18 = .ok (.invokestatic 53, 3) := by decide +kernel
theorem dX5_hasLike_21 : decode cX5_hasLike 21 = .ok (.iload_n 2, 1) := by decide +kernel
theorem dX5_hasLike_22 : decode cX5_hasLike 22 = .ok (.invokevirtual 60, 3) := by decide +kernel
theorem dX5_hasLike_25 : decode cX5_hasLike 25 = .ok (.ifCond .eq 5, 3) := by decide +kernel
theorem dX5_hasLike_28 : decode cX5_hasLike 28 = .ok (.iconst 1, 1) := by decide +kernel
theorem dX5_hasLike_29 : decode cX5_hasLike 29 = .ok (.ireturn, 1) := by decide +kernel
theorem dX5_hasLike_30 : decode cX5_hasLike 30 = .ok (.iinc 3 1, 3) := by decide +kernel
theorem dX5_hasLike_33 : decode cX5_hasLike 33 = .ok (.goto (-31), 3) := by decide +kernel
theorem dX5_hasLike_36 : decode cX5_hasLike 36 = .ok (.iconst 0, 1) := by decide +kernel
theorem dX5_hasLike_37 : decode cX5_hasLike 37 = .ok (.ireturn, 1) := by decide +kernel
theorem dX5_isLike_0 : decode cX5_isLike 0 = .ok (.aload_n 0, 1) := by decide +kernel
theorem dX5_isLike_1 : decode cX5_isLike 1 = .ok (.getfield 18, 3) := by decide +kernel
theorem dX5_isLike_4 : decode cX5_isLike 4 = .ok (.getfield 63, 3) := by decide +kernel
theorem dX5_isLike_7 : decode cX5_isLike 7 = .ok (.iload_n 1, 1) := by decide +kernel
theorem dX5_isLike_8 : decode cX5_isLike 8 = .ok (.iaload, 1) := by decide +kernel
theorem dX5_isLike_9 : decode cX5_isLike 9 = .ok (.aload_n 0, 1) := by decide +kernel
theorem dX5_isLike_10 : decode cX5_isLike 10 = .ok (.getfield 18, 3) := by decide +kernel
theorem dX5_isLike_13 : decode cX5_isLike 13 = .ok (.getfield 63, 3) := by decide +kernel
theorem dX5_isLike_16 : decode cX5_isLike 16 = .ok (.iload_n 2, 1) := by decide +kernel
theorem dX5_isLike_17 : decode cX5_isLike 17 = .ok (.iaload, 1) := by decide +kernel
theorem dX5_isLike_18 : decode cX5_isLike 18 = .ok (.if_icmp .ne 24, 3) := by decide +kernel
theorem dX5_isLike_21 : decode cX5_isLike 21 = .ok (.aload_n 0, 1) := by decide +kernel
theorem dX5_isLike_22 : decode cX5_isLike 22 = .ok (.getfield 18, 3) := by decide +kernel
theorem dX5_isLike_25 : decode cX5_isLike 25 = .ok (.getfield 66, 3) := by decide +kernel
theorem dX5_isLike_28 : decode cX5_isLike 28 = .ok (.iload_n 1, 1) := by decide +kernel
theorem dX5_isLike_29 : decode cX5_isLike 29 = .ok (.iaload, 1) := by decide +kernel
theorem dX5_isLike_30 : decode cX5_isLike 30 = .ok (.aload_n 0, 1) := by decide +kernel
theorem dX5_isLike_31 : decode cX5_isLike 31 = .ok (.getfield 18, 3) := by decide +kernel
theorem dX5_isLike_34 : decode cX5_isLike 34 = .ok (.getfield 66, 3) := by decide +kernel
theorem dX5_isLike_37 : decode cX5_isLike 37 = .ok (.iload_n 2, 1) := by decide +kernel
theorem dX5_isLike_38 : decode cX5_isLike 38 = .ok (.iaload, 1) := by decide +kernel
theorem dX5_isLike_39 : decode cX5_isLike 39 = .ok (.if_icmp .eq 5, 3) := by decide +kernel
theorem dX5_isLike_42 : decode cX5_isLike 42 = .ok (.iconst 0, 1) := by decide +kernel
theorem dX5_isLike_43 : decode cX5_isLike 43 = .ok (.ireturn, 1) := by decide +kernel
theorem dX5_isLike_44 : decode cX5_isLike 44 = .ok (.iconst 0, 1) := by decide +kernel
theorem dX5_isLike_45 : decode cX5_isLike 45 = .ok (.istore_n 3, 1) := by decide +kernel
theorem dX5_isLike_46 : decode cX5_isLike 46 = .ok (.iload_n 3, 1) := by decide +kernel
theorem dX5_isLike_47 : decode cX5_isLike 47 = .ok (.aload_n 0, 1) := by decide +kernel
theorem dX5_isLike_48 : decode cX5_isLike 48 = .ok (.getfield 18, 3) := by decide +kernel
theorem dX5_isLike_51 : decode cX5_isLike 51 = .ok (.getfield 22, 3) := by decide +kernel
theorem dX5_isLike_54 : decode cX5_isLike 54 = .ok (.if_icmp .ge 50, 3) := by decide +kernel
theorem dX5_isLike_57 : decode cX5_isLike 57 = .ok (.aload_n 0, 1) := by decide +kernel
theorem dX5_isLike_58 : decode cX5_isLike 58 = .ok (.iload_n 3, 1) := by decide +kernel
theorem dX5_isLike_59 : decode cX5_isLike 59 = .ok (.iload_n 1, 1) := by decide +kernel
theorem dX5_isLike_60 : decode cX5_isLike 60 = .ok (.invokevirtual 69, 3) := by decide +kernel
theorem dX5_isLike_63 : decode cX5_isLike 63 = .ok (.aload_n 0, 1) := by decide +kernel
theorem dX5_isLike_64 : decode cX5_isLike 64 = .ok (.getfield 18, 3) := by decide +kernel
theorem dX5_isLike_67 : decode cX5_isLike 67 = .ok (.getfield 72, 3) := by decide +kernel
theorem dX5_isLike_70 : decode cX5_isLike 70 = .ok (.iload_n 2, 1) := by decide +kernel
theorem dX5_isLike_71 : decode cX5_isLike 71 = .ok (.iaload, 1) := by decide +kernel
theorem dX5_isLike_72 : decode cX5_isLike 72 = .ok (.imul, 1) := by decide +kernel
theorem dX5_isLike_73 : decode cX5_isLike 73 = .ok (.istore 4, 2) := by decide +kernel
theorem dX5_isLike_75 : decode cX5_isLike 75 = .ok (.iload 4, 2) := by decide +kernel
theorem dX5_isLike_77 : decode cX5_isLike 77 = .ok (.aload_n 0, 1) := by decide +kernel
theorem dX5_isLike_78 : decode cX5_isLike 78 = .ok (.iload_n 3, 1) := by decide +kernel
theorem dX5_isLike_79 : decode cX5_isLike 79 = .ok (.iload_n 2, 1) := by decide +kernel
theorem dX5_isLike_80 : decode cX5_isLike 80 = .ok (.invokevirtual 69, 3) := by decide +kernel
theorem dX5_isLike_83 : decode cX5_isLike 83 = .ok (.aload_n 0, 1) := by decide +kernel
theorem dX5_isLike_84 : decode cX5_isLike 84 = .ok (.getfield 18, 3) := by decide +kernel
theorem dX5_isLike_87 : decode cX5_isLike 87 = .ok (.getfield 72, 3) := by decide +kernel
theorem dX5_isLike_90 : decode cX5_isLike 90 = .ok (.iload_n 1, 1) := by decide +kernel
theorem dX5_isLike_91 : decode cX5_isLike 91 = .ok (.iaload, 1) := by decide +kernel
theorem dX5_isLike_92 : decode cX5_isLike 92 = .ok (.imul, 1) := by decide +kernel
theorem dX5_isLike_93 : decode cX5_isLike 93 = .ok (.if_icmp .eq 5, 3) := by decide +kernel
theorem dX5_isLike_96 : decode cX5_isLike 96 = .ok (.iconst 0, 1) := by decide +kernel
theorem dX5_isLike_97 : decode cX5_isLike 97 = .ok (.ireturn, 1) := by decide +kernel
theorem dX5_isLike_98 : decode cX5_isLike 98 = .ok (.iinc 3 1, 3) := by decide +kernel
theorem dX5_isLike_101 : decode cX5_isLike 101 = .ok (.goto (-55), 3) := by decide +kernel
theorem dX5_isLike_104 : decode cX5_isLike 104 = .ok (.iconst 1, 1) := by decide +kernel
theorem dX5_isLike_105 : decode cX5_isLike 105 = .ok (.ireturn, 1) := by decide +kernel
theorem dX5_weightInto_0 : decode cX5_weightInto 0 = .ok (.iconst 0, 1) := by decide +kernel
theorem dX5_weightInto_1 : decode cX5_weightInto 1 = .ok (.istore_n 3, 1) := by decide +kernel
theorem dX5_weightInto_2 : decode cX5_weightInto 2 = .ok (.iconst 0, 1) := by decide +kernel
theorem dX5_weightInto_3 : decode cX5_weightInto 3 = .ok (.istore 4, 2) := by decide +kernel
theorem dX5_weightInto_5 : decode cX5_weightInto 5 = .ok (.iload 4, 2) := by decide +kernel
theorem dX5_weightInto_7 : decode cX5_weightInto 7 = .ok (.aload_n 0, 1) := by decide +kernel
theorem dX5_weightInto_8 : decode cX5_weightInto 8 = .ok (.getfield 18, 3) := by decide +kernel
theorem dX5_weightInto_11 : decode cX5_weightInto 11 = .ok (.getfield 22, 3) := by decide +kernel
theorem dX5_weightInto_14 : decode cX5_weightInto 14 = .ok (.if_icmp .ge 35, 3) := by decide +kernel
theorem dX5_weightInto_17 : decode cX5_weightInto 17 = .ok (.aload_n 0, 1) := by decide +kernel
theorem dX5_weightInto_18 : decode cX5_weightInto 18 = .ok (.getfield 9, 3) := by decide +kernel
theorem dX5_weightInto_21 : decode cX5_weightInto 21 = .ok (.iload 4, 2) := by decide +kernel
theorem dX5_weightInto_23 : decode cX5_weightInto 23 = .ok (.iaload, 1) := by decide +kernel
theorem dX5_weightInto_24 : decode cX5_weightInto 24 = .ok (.iload_n 1, 1) := by decide +kernel
theorem dX5_weightInto_25 : decode cX5_weightInto 25 = .ok (.if_icmp .ne 18, 3) := by decide +kernel
theorem dX5_weightInto_28 : decode cX5_weightInto 28 = .ok (.iload_n 3, 1) := by decide +kernel
theorem dX5_weightInto_29 : decode cX5_weightInto 29 = .ok (.aload_n 0, 1) := by decide +kernel
theorem dX5_weightInto_30 : decode cX5_weightInto 30 = .ok (.getfield 18, 3) := by decide +kernel
theorem dX5_weightInto_33 : decode cX5_weightInto 33 = .ok (.getfield 75, 3) := by decide +kernel
theorem dX5_weightInto_36 : decode cX5_weightInto 36 = .ok (.iload_n 2, 1) := by decide +kernel
theorem dX5_weightInto_37 : decode cX5_weightInto 37 = .ok (.aaload, 1) := by decide +kernel
theorem dX5_weightInto_38 : decode cX5_weightInto 38 = .ok (.iload 4, 2) := by decide +kernel
theorem dX5_weightInto_40 : decode cX5_weightInto 40 = .ok (.iaload, 1) := by decide +kernel
theorem dX5_weightInto_41 : decode cX5_weightInto 41 = .ok (.iadd, 1) := by decide +kernel
theorem dX5_weightInto_42 : decode cX5_weightInto 42 = .ok (.istore_n 3, 1) := by decide +kernel
theorem dX5_weightInto_43 : decode cX5_weightInto 43 = .ok (.iinc 4 1, 3) := by decide +kernel
theorem dX5_weightInto_46 : decode cX5_weightInto 46 = .ok (.goto (-41), 3) := by decide +kernel
theorem dX5_weightInto_49 : decode cX5_weightInto 49 = .ok (.iload_n 3, 1) := by decide +kernel
theorem dX5_weightInto_50 : decode cX5_weightInto 50 = .ok (.ireturn, 1) := by decide +kernel
theorem dX5_howMany_0 : decode cX5_howMany 0 = .ok (.iconst 0, 1) := by decide +kernel
theorem dX5_howMany_1 : decode cX5_howMany 1 = .ok (.istore_n 1, 1) := by decide +kernel
theorem dX5_howMany_2 : decode cX5_howMany 2 = .ok (.iconst 0, 1) := by decide +kernel
theorem dX5_howMany_3 : decode cX5_howMany 3 = .ok (.istore_n 2, 1) := by decide +kernel
theorem dX5_howMany_4 : decode cX5_howMany 4 = .ok (.iload_n 2, 1) := by decide +kernel
theorem dX5_howMany_5 : decode cX5_howMany 5 = .ok (.aload_n 0, 1) := by decide +kernel
theorem dX5_howMany_6 : decode cX5_howMany 6 = .ok (.getfield 18, 3) := by decide +kernel
theorem dX5_howMany_9 : decode cX5_howMany 9 = .ok (.getfield 22, 3) := by decide +kernel
theorem dX5_howMany_12 : decode cX5_howMany 12 = .ok (.if_icmp .ge 22, 3) := by decide +kernel
theorem dX5_howMany_15 : decode cX5_howMany 15 = .ok (.aload_n 0, 1) := by decide +kernel
theorem dX5_howMany_16 : decode cX5_howMany 16 = .ok (.getfield 9, 3) := by decide +kernel
theorem dX5_howMany_19 : decode cX5_howMany 19 = .ok (.iload_n 2, 1) := by decide +kernel
theorem dX5_howMany_20 : decode cX5_howMany 20 = .ok (.iaload, 1) := by decide +kernel
theorem dX5_howMany_21 : decode cX5_howMany 21 = .ok (.iload_n 2, 1) := by decide +kernel
theorem dX5_howMany_22 : decode cX5_howMany 22 = .ok (.if_icmp .ne 6, 3) := by decide +kernel
theorem dX5_howMany_25 : decode cX5_howMany 25 = .ok (.iinc 1 1, 3) := by decide +kernel
theorem dX5_howMany_28 : decode cX5_howMany 28 = .ok (.iinc 2 1, 3) := by decide +kernel
theorem dX5_howMany_31 : decode cX5_howMany 31 = .ok (.goto (-27), 3) := by decide +kernel
theorem dX5_howMany_34 : decode cX5_howMany 34 = .ok (.iload_n 1, 1) := by decide +kernel
theorem dX5_howMany_35 : decode cX5_howMany 35 = .ok (.ireturn, 1) := by decide +kernel
theorem dX6_init_0 : decode cX6_init 0 = .ok (.aload_n 0, 1) := by decide +kernel
theorem dX6_init_1 : decode cX6_init 1 = .ok (.invokespecial 3, 3) := by decide +kernel
theorem dX6_init_4 : decode cX6_init 4 = .ok (.aload_n 0, 1) := by decide +kernel
theorem dX6_init_5 : decode cX6_init 5 = .ok (.bipush 7, 2) := by decide +kernel
theorem dX6_init_7 : decode cX6_init 7 = .ok (.newarray .int, 2) := by decide +kernel
theorem dX6_init_9 : decode cX6_init 9 = .ok (.putfield 9, 3) := by decide +kernel
theorem dX6_init_12 : decode cX6_init 12 = .ok (.aload_n 0, 1) := by decide +kernel
theorem dX6_init_13 : decode cX6_init 13 = .ok (.bipush 7, 2) := by decide +kernel
theorem dX6_init_15 : decode cX6_init 15 = .ok (.newarray .long, 2) := by decide +kernel
theorem dX6_init_17 : decode cX6_init 17 = .ok (.putfield 15, 3) := by decide +kernel
theorem dX6_init_20 : decode cX6_init 20 = .ok (.aload_n 0, 1) := by decide +kernel
theorem dX6_init_21 : decode cX6_init 21 = .ok (.new 19, 3) := by decide +kernel
theorem dX6_init_24 : decode cX6_init 24 = .ok (.dup, 1) := by decide +kernel
theorem dX6_init_25 : decode cX6_init 25 = .ok (.invokespecial 21, 3) := by decide +kernel
theorem dX6_init_28 : decode cX6_init 28 = .ok (.putfield 22, 3) := by decide +kernel
theorem dX6_init_31 : decode cX6_init 31 = .ok (.aload_n 0, 1) := by decide +kernel
theorem dX6_init_32 : decode cX6_init 32 = .ok (.aload_n 1, 1) := by decide +kernel
theorem dX6_init_33 : decode cX6_init 33 = .ok (.putfield 26, 3) := by decide +kernel
theorem dX6_init_36 : decode cX6_init 36 = .ok (.aload_n 0, 1) := by decide +kernel
theorem dX6_init_37 : decode cX6_init 37 = .ok (.aload_n 2, 1) := by decide +kernel
theorem dX6_init_38 : decode cX6_init 38 = .ok (.putfield 30, 3) := by decide +kernel
theorem dX6_init_41 : decode cX6_init 41 = .ok (.aload_n 0, 1) := by decide +kernel
theorem dX6_init_42 : decode cX6_init 42 = .ok (.aload_n 3, 1) := by decide +kernel
theorem dX6_init_43 : decode cX6_init 43 = .ok (.putfield 34, 3) := by decide +kernel
theorem dX6_init_46 : decode cX6_init 46 = .ok (.return_, 1) := by decide +kernel
theorem dX6_findClosed_0 : decode cX6_findClosed 0 = .ok (.aload_n 0, 1) := by decide +kernel
theorem dX6_findClosed_1 : decode cX6_findClosed 1 = .ok (.getfield 30, 3) := by decide +kernel
theorem dX6_findClosed_4 : decode cX6_findClosed 4 = .ok (.aload_n 1, 1) := by decide +kernel
theorem dX6_findClosed_5 : decode cX6_findClosed 5 = .ok (.invokevirtual 38, 3) := by decide +kernel
theorem dX6_findClosed_8 : decode cX6_findClosed 8 = .ok (.iconst 0, 1) := by decide +kernel
theorem dX6_findClosed_9 : decode cX6_findClosed 9 = .ok (.istore_n 2, 1) := by decide +kernel
theorem dX6_findClosed_10 : decode cX6_findClosed 10 = .ok (.iload_n 2, 1) := by decide +kernel
theorem dX6_findClosed_11 : decode cX6_findClosed 11 = .ok (.aload_n 0, 1) := by decide +kernel
theorem dX6_findClosed_12 : decode cX6_findClosed 12 = .ok (.getfield 26, 3) := by decide +kernel
theorem dX6_findClosed_15 : decode cX6_findClosed 15 = .ok (.getfield 44, 3) := by decide +kernel
theorem dX6_findClosed_18 : decode cX6_findClosed 18 = .ok (.if_icmp .ge 23, 3) := by decide +kernel
theorem dX6_findClosed_21 : decode cX6_findClosed 21 = .ok (.aload_n 0, 1) := by decide +kernel
theorem dX6_findClosed_22 : decode cX6_findClosed 22 = .ok (.getfield 9, 3) := by decide +kernel
theorem dX6_findClosed_25 : decode cX6_findClosed 25 = .ok (.iload_n 2, 1) := by decide +kernel
theorem dX6_findClosed_26 : decode cX6_findClosed 26 = .ok (.aload_n 0, 1) := by decide +kernel
theorem dX6_findClosed_27 : decode cX6_findClosed 27 = .ok (.getfield 30, 3) := by decide +kernel
theorem dX6_findClosed_30 : decode cX6_findClosed 30 = .ok (.iload_n 2, 1) := by decide +kernel
theorem dX6_findClosed_31 : decode cX6_findClosed 31 = .ok (.invokevirtual 50, 3) := by decide +kernel
theorem dX6_findClosed_34 : decode cX6_findClosed 34 = .ok (.iastore, 1) := by decide +kernel
theorem dX6_findClosed_35 : decode cX6_findClosed 35 = .ok (.iinc 2 1, 3) := by decide +kernel
theorem dX6_findClosed_38 : decode cX6_findClosed 38 = .ok (.goto (-28), 3) := by decide +kernel
theorem dX6_findClosed_41 : decode cX6_findClosed 41 = .ok (.return_, 1) := by decide +kernel
theorem dX6_findParity_0 : decode cX6_findParity 0 = .ok (.aload_n 0, 1) := by decide +kernel
theorem dX6_findParity_1 : decode cX6_findParity 1 = .ok (.aload_n 1, 1) := by decide +kernel
theorem dX6_findParity_2 : decode cX6_findParity 2 = .ok (.invokevirtual 54, 3) := by decide +kernel
theorem dX6_findParity_5 : decode cX6_findParity 5 = .ok (.iconst 0, 1) := by decide +kernel
theorem dX6_findParity_6 : decode cX6_findParity 6 = .ok (.istore_n 2, 1) := by decide +kernel
theorem dX6_findParity_7 : decode cX6_findParity 7 = .ok (.iconst 0, 1) := by decide +kernel
theorem dX6_findParity_8 : decode cX6_findParity 8 = .ok (.istore_n 3, 1) := by decide +kernel
theorem dX6_findParity_9 : decode cX6_findParity 9 = .ok (.iload_n 3, 1) := by decide +kernel
theorem dX6_findParity_10 : decode cX6_findParity 10 = .ok (.aload_n 0, 1) := by decide +kernel
theorem dX6_findParity_11 : decode cX6_findParity 11 = .ok (.getfield 26, 3) := by decide +kernel
theorem dX6_findParity_14 : decode cX6_findParity 14 = .ok (.getfield 44, 3) := by decide +kernel
theorem dX6_findParity_17 : decode cX6_findParity 17 = .ok (.if_icmp .ge 39, 3) := by decide +kernel
theorem dX6_findParity_20 : decode cX6_findParity 20 = .ok (.aload_n 0, 1) := by decide +kernel
theorem dX6_findParity_21 : decode cX6_findParity 21 = .ok (.getfield 9, 3) := by decide +kernel
theorem dX6_findParity_24 : decode cX6_findParity 24 = .ok (.iload_n 3, 1) := by decide +kernel
theorem dX6_findParity_25 : decode cX6_findParity 25 = .ok (.iaload, 1) := by decide +kernel
theorem dX6_findParity_26 : decode cX6_findParity 26 = .ok (.ifCond .eq 24, 3) := by decide +kernel
theorem dX6_findParity_29 : decode cX6_findParity 29 = .ok (.aload_n 0, 1) := by decide +kernel
theorem dX6_findParity_30 : decode cX6_findParity 30 = .ok (.aload_n 0, 1) := by decide +kernel
theorem dX6_findParity_31 : decode cX6_findParity 31 = .ok (.getfield 9, 3) := by decide +kernel
theorem dX6_findParity_34 : decode cX6_findParity 34 = .ok (.iload_n 3, 1) := by decide +kernel
theorem dX6_findParity_35 : decode cX6_findParity 35 = .ok (.iaload, 1) := by decide +kernel
theorem dX6_findParity_36 : decode cX6_findParity 36 = .ok (.invokevirtual 57, 3) := by decide +kernel
theorem dX6_findParity_39 : decode cX6_findParity 39 = .ok (.iconst 2, 1) := by decide +kernel
theorem dX6_findParity_40 : decode cX6_findParity 40 = .ok (.irem, 1) := by decide +kernel
theorem dX6_findParity_41 : decode cX6_findParity 41 = .ok (.ifCond .ne 9, 3) := by decide +kernel
theorem dX6_findParity_44 : decode cX6_findParity 44 = .ok (.iload_n 2, 1) := by decide +kernel
theorem dX6_findParity_45 : decode cX6_findParity 45 = .ok (.iconst 1, 1) := by decide +kernel
theorem dX6_findParity_46 : decode cX6_findParity 46 = .ok (.iload_n 3, 1) := by decide +kernel
theorem dX6_findParity_47 : decode cX6_findParity 47 = .ok (.ishl, 1) := by decide +kernel
theorem dX6_findParity_48 : decode cX6_findParity 48 = .ok (.ior, 1) := by decide +kernel
theorem dX6_findParity_49 : decode cX6_findParity 49 = .ok (.istore_n 2, 1) := by decide +kernel
theorem dX6_findParity_50 : decode cX6_findParity 50 = .ok (.iinc 3 1, 3) := by decide +kernel
theorem dX6_findParity_53 : decode cX6_findParity 53 = .ok (.goto (-44), 3) := by decide +kernel
theorem dX6_findParity_56 : decode cX6_findParity 56 = .ok (.aload_n 0, 1) := by decide +kernel
theorem dX6_findParity_57 : decode cX6_findParity 57 = .ok (.getfield 34, 3) := by decide +kernel
theorem dX6_findParity_60 : decode cX6_findParity 60 = .ok (.iload_n 2, 1) := by decide +kernel
theorem dX6_findParity_61 : decode cX6_findParity 61 = .ok (.aload_n 1, 1) := by decide +kernel
theorem dX6_findParity_62 : decode cX6_findParity 62 = .ok (.invokevirtual 60, 3) := by decide +kernel
theorem dX6_findParity_65 : decode cX6_findParity 65 = .ok (.return_, 1) := by decide +kernel
theorem dX6_leastColour_0 : decode cX6_leastColour 0 = .ok (.iconst 3, 1) := by decide +kernel
theorem dX6_leastColour_1 : decode cX6_leastColour 1 = .ok (.istore_n 2, 1) := by decide +kernel
theorem dX6_leastColour_2 : decode cX6_leastColour 2 = .ok (.iconst 0, 1) := by decide +kernel
theorem dX6_leastColour_3 : decode cX6_leastColour 3 = .ok (.istore_n 3, 1) := by decide +kernel
theorem dX6_leastColour_4 : decode cX6_leastColour 4 = .ok (.iload_n 3, 1) := by decide +kernel
theorem dX6_leastColour_5 : decode cX6_leastColour 5 = .ok (.aload_n 0, 1) := by decide +kernel
theorem dX6_leastColour_6 : decode cX6_leastColour 6 = .ok (.getfield 26, 3) := by decide +kernel
theorem dX6_leastColour_9 : decode cX6_leastColour 9 = .ok (.getfield 44, 3) := by decide +kernel
theorem dX6_leastColour_12 : decode cX6_leastColour 12 = .ok (.if_icmp .ge 31, 3) := by decide +kernel
theorem dX6_leastColour_15 : decode cX6_leastColour 15 = .ok (.iload_n 1, 1) := by decide +kernel
theorem dX6_leastColour_16 : decode cX6_leastColour 16 = .ok (.iload_n 3, 1) := by decide +kernel
theorem dX6_leastColour_17 : decode cX6_leastColour 17 = .ok (.invokestatic 66, 3) := by decide +kernel
theorem dX6_leastColour_20 : decode cX6_leastColour 20 = .ok (.ifCond .eq 17, 3) := by decide +kernel
theorem dX6_leastColour_23 : decode cX6_leastColour 23 = .ok (.iload_n 2, 1) := by decide +kernel
theorem dX6_leastColour_24 : decode cX6_leastColour 24 = .ok (.aload_n 0, 1) := by decide +kernel
theorem dX6_leastColour_25 : decode cX6_leastColour 25 = .ok (.getfield 26, 3) := by decide +kernel
theorem dX6_leastColour_28 : decode cX6_leastColour 28 = .ok (.getfield 70, 3) := by decide +kernel
theorem dX6_leastColour_31 : decode cX6_leastColour 31 = .ok (.iload_n 3, 1) := by decide +kernel
theorem dX6_leastColour_32 : decode cX6_leastColour 32 = .ok (.iaload, 1) := by decide +kernel
theorem dX6_leastColour_33 : decode cX6_leastColour 33 = .ok (.invokestatic 73, 3) := by decide +kernel
theorem dX6_leastColour_36 : decode cX6_leastColour 36 = .ok (.istore_n 2, 1) := by decide +kernel
theorem dX6_leastColour_37 : decode cX6_leastColour 37 = .ok (.iinc 3 1, 3) := by decide +kernel
theorem dX6_leastColour_40 : decode cX6_leastColour 40 = .ok (.goto (-36), 3) := by decide +kernel
theorem dX6_leastColour_43 : decode cX6_leastColour 43 = .ok (.iload_n 2, 1) := by decide +kernel
theorem dX6_leastColour_44 : decode cX6_leastColour 44 = .ok (.ireturn, 1) := by decide +kernel
theorem dX6_findMeans_0 : decode cX6_findMeans 0 = .ok (.aload_n 0, 1) := by decide +kernel
theorem dX6_findMeans_1 : decode cX6_findMeans 1 = .ok (.aload_n 1, 1) := by decide +kernel
theorem dX6_findMeans_2 : decode cX6_findMeans 2 = .ok (.invokevirtual 54, 3) := by decide +kernel
theorem dX6_findMeans_5 : decode cX6_findMeans 5 = .ok (.aload_n 0, 1) := by decide +kernel
theorem dX6_findMeans_6 : decode cX6_findMeans 6 = .ok (.getfield 34, 3) := by decide +kernel
theorem dX6_findMeans_9 : decode cX6_findMeans 9 = .ok (.invokevirtual 79, 3) := by decide +kernel
theorem dX6_findMeans_12 : decode cX6_findMeans 12 = .ok (.aload_n 0, 1) := by decide +kernel
theorem dX6_findMeans_13 : decode cX6_findMeans 13 = .ok (.aload_n 1, 1) := by decide +kernel
theorem dX6_findMeans_14 : decode cX6_findMeans 14 = .ok (.iconst 1, 1) := by decide +kernel
theorem dX6_findMeans_15 : decode cX6_findMeans 15 = .ok (.invokevirtual 82, 3) := by decide +kernel
theorem dX6_findMeans_18 : decode cX6_findMeans 18 = .ok (.iconst 0, 1) := by decide +kernel
theorem dX6_findMeans_19 : decode cX6_findMeans 19 = .ok (.istore_n 2, 1) := by decide +kernel
theorem dX6_findMeans_20 : decode cX6_findMeans 20 = .ok (.iload_n 2, 1) := by decide +kernel
theorem dX6_findMeans_21 : decode cX6_findMeans 21 = .ok (.aload_n 0, 1) := by decide +kernel
theorem dX6_findMeans_22 : decode cX6_findMeans 22 = .ok (.getfield 26, 3) := by decide +kernel
theorem dX6_findMeans_25 : decode cX6_findMeans 25 = .ok (.getfield 44, 3) := by decide +kernel
theorem dX6_findMeans_28 : decode cX6_findMeans 28 = .ok (.if_icmp .ge 27, 3) := by decide +kernel
theorem dX6_findMeans_31 : decode cX6_findMeans 31 = .ok (.aload_n 0, 1) := by decide +kernel
theorem dX6_findMeans_32 : decode cX6_findMeans 32 = .ok (.getfield 15, 3) := by decide +kernel
theorem dX6_findMeans_35 : decode cX6_findMeans 35 = .ok (.iload_n 2, 1) := by decide +kernel
theorem dX6_findMeans_36 : decode cX6_findMeans 36 = .ok (.aload_n 0, 1) := by decide +kernel
theorem dX6_findMeans_37 : decode cX6_findMeans 37 = .ok (.getfield 34, 3) := by decide +kernel
theorem dX6_findMeans_40 : decode cX6_findMeans 40 = .ok (.getfield 86, 3) := by decide +kernel
theorem dX6_findMeans_43 : decode cX6_findMeans 43 = .ok (.getfield 90, 3) := by decide +kernel
theorem dX6_findMeans_46 : decode cX6_findMeans 46 = .ok (.iload_n 2, 1) := by decide +kernel
theorem dX6_findMeans_47 : decode cX6_findMeans 47 = .ok (.laload, 1) := by decide +kernel
theorem dX6_findMeans_48 : decode cX6_findMeans 48 = .ok (.lastore, 1) := by decide +kernel
theorem dX6_findMeans_49 : decode cX6_findMeans 49 = .ok (.iinc 2 1, 3) := by decide +kernel
theorem dX6_findMeans_52 : decode cX6_findMeans 52 = .ok (.goto (-32), 3) := by decide +kernel
theorem dX6_findMeans_55 : decode cX6_findMeans 55 = .ok (.aload_n 0, 1) := by decide +kernel
theorem dX6_findMeans_56 : decode cX6_findMeans 56 = .ok (.aload_n 1, 1) := by decide +kernel
theorem dX6_findMeans_57 : decode cX6_findMeans 57 = .ok (.iconst 0, 1) := by decide +kernel
theorem dX6_findMeans_58 : decode cX6_findMeans 58 = .ok (.invokevirtual 82, 3) := by decide +kernel
theorem dX6_findMeans_61 : decode cX6_findMeans 61 = .ok (.iconst 0, 1) := by decide +kernel
theorem dX6_findMeans_62 : decode cX6_findMeans 62 = .ok (.istore_n 2, 1) := by decide +kernel
theorem dX6_findMeans_63 : decode cX6_findMeans 63 = .ok (.iload_n 2, 1) := by decide +kernel
theorem dX6_findMeans_64 : decode cX6_findMeans 64 = .ok (.aload_n 0, 1) := by decide +kernel
theorem dX6_findMeans_65 : decode cX6_findMeans 65 = .ok (.getfield 26, 3) := by decide +kernel
theorem dX6_findMeans_68 : decode cX6_findMeans 68 = .ok (.getfield 44, 3) := by decide +kernel
theorem dX6_findMeans_71 : decode cX6_findMeans 71 = .ok (.if_icmp .ge 29, 3) := by decide +kernel
theorem dX6_findMeans_74 : decode cX6_findMeans 74 = .ok (.aload_n 0, 1) := by decide +kernel
theorem dX6_findMeans_75 : decode cX6_findMeans 75 = .ok (.iload_n 2, 1) := by decide +kernel
theorem dX6_findMeans_76 : decode cX6_findMeans 76 = .ok (.invokevirtual 95, 3) := by decide +kernel
theorem dX6_findMeans_79 : decode cX6_findMeans 79 = .ok (.ifCond .eq 15, 3) := by decide +kernel
theorem dX6_findMeans_82 : decode cX6_findMeans 82 = .ok (.aload_n 0, 1) := by decide +kernel
theorem dX6_findMeans_83 : decode cX6_findMeans 83 = .ok (.iload_n 2, 1) := by decide +kernel
theorem dX6_findMeans_84 : decode cX6_findMeans 84 = .ok (.iload_n 2, 1) := by decide +kernel
theorem dX6_findMeans_85 : decode cX6_findMeans 85 = .ok (.aload_n 1, 1) := by decide +kernel
theorem dX6_findMeans_86 : decode cX6_findMeans 86 = .ok (.iload_n 2, 1) := by decide +kernel
theorem dX6_findMeans_87 : decode cX6_findMeans 87 = .ok (.iaload, 1) := by decide +kernel
theorem dX6_findMeans_88 : decode cX6_findMeans 88 = .ok (.invokestatic 99, 3) := by decide +kernel
theorem dX6_findMeans_91 : decode cX6_findMeans 91 = .ok (.invokevirtual 102, 3) := by decide +kernel
theorem dX6_findMeans_94 : decode cX6_findMeans 94 = .ok (.iinc 2 1, 3) := by decide +kernel
theorem dX6_findMeans_97 : decode cX6_findMeans 97 = .ok (.goto (-34), 3) := by decide +kernel
theorem dX6_findMeans_100 : decode cX6_findMeans 100 = .ok (.aload_n 0, 1) := by decide +kernel
theorem dX6_findMeans_101 : decode cX6_findMeans 101 = .ok (.aload_n 1, 1) := by decide +kernel
theorem dX6_findMeans_102 : decode cX6_findMeans 102 = .ok (.invokevirtual 106, 3) := by decide +kernel
theorem dX6_findMeans_105 : decode cX6_findMeans 105 = .ok (.return_, 1) := by decide +kernel
theorem dX6_isReturn_0 : decode cX6_isReturn 0 = .ok (.aload_n 0, 1) := by decide +kernel
theorem dX6_isReturn_1 : decode cX6_isReturn 1 = .ok (.getfield 9, 3) := by decide +kernel
theorem dX6_isReturn_4 : decode cX6_isReturn 4 = .ok (.iload_n 1, 1) := by decide +kernel
theorem dX6_isReturn_5 : decode cX6_isReturn 5 = .ok (.iaload, 1) := by decide +kernel
theorem dX6_isReturn_6 : decode cX6_isReturn 6 = .ok (.ifCond .eq 20, 3) := by decide +kernel
theorem dX6_isReturn_9 : decode cX6_isReturn 9 = .ok (.aload_n 0, 1) := by decide +kernel
theorem dX6_isReturn_10 : decode cX6_isReturn 10 = .ok (.getfield 9, 3) := by decide +kernel
theorem dX6_isReturn_13 : decode cX6_isReturn 13 = .ok (.iload_n 1, 1) := by decide +kernel
theorem dX6_isReturn_14 : decode cX6_isReturn 14 = .ok (.iaload, 1) := by decide +kernel
theorem dX6_isReturn_15 : decode cX6_isReturn 15 = .ok (.invokestatic 109, 3) := by decide +kernel
theorem dX6_isReturn_18 : decode cX6_isReturn 18 = .ok (.iload_n 1, 1) := by decide +kernel
theorem dX6_isReturn_19 : decode cX6_isReturn 19 = .ok (.if_icmp .ne 7, 3) := by decide +kernel
theorem dX6_isReturn_22 : decode cX6_isReturn 22 = .ok (.iconst 1, 1) := by decide +kernel
theorem dX6_isReturn_23 : decode cX6_isReturn 23 = .ok (.goto 4, 3) := by decide +kernel
theorem dX6_isReturn_26 : decode cX6_isReturn 26 = .ok (.iconst 0, 1) := by decide +kernel
theorem dX6_isReturn_27 : decode cX6_isReturn 27 = .ok (.ireturn, 1) := by decide +kernel
theorem dX6_solveReturns_0 : decode cX6_solveReturns 0 = .ok (.iconst 0, 1) := by decide +kernel
theorem dX6_solveReturns_1 : decode cX6_solveReturns 1 = .ok (.istore_n 3, 1) := by decide +kernel
theorem dX6_solveReturns_2 : decode cX6_solveReturns 2 = .ok (.iload_n 3, 1) := by decide +kernel
theorem dX6_solveReturns_3 : decode cX6_solveReturns 3 = .ok (.aload_n 0, 1) := by decide +kernel
theorem dX6_solveReturns_4 : decode cX6_solveReturns 4 = .ok (.getfield 26, 3) := by decide +kernel
theorem dX6_solveReturns_7 : decode cX6_solveReturns 7 = .ok (.getfield 44, 3) := by decide +kernel
theorem dX6_solveReturns_10 : decode cX6_solveReturns 10 = .ok (.if_icmp .ge 107, 3) := by decide +kernel
theorem dX6_solveReturns_13 : decode cX6_solveReturns 13 = .ok (.aload_n 0, 1) := by decide +kernel
theorem dX6_solveReturns_14 : decode cX6_solveReturns 14 = .ok (.getfield 9, 3) := by decide +kernel
theorem dX6_solveReturns_17 : decode cX6_solveReturns 17 = .ok (.iload_n 3, 1) := by decide +kernel
theorem dX6_solveReturns_18 : decode cX6_solveReturns 18 = .ok (.iaload, 1) := by decide +kernel
theorem dX6_solveReturns_19 : decode cX6_solveReturns 19 = .ok (.ifCond .eq 11, 3) := by decide +kernel
theorem dX6_solveReturns_22 : decode cX6_solveReturns 22 = .ok (.aload_n 0, 1) := by decide +kernel
theorem dX6_solveReturns_23 : decode cX6_solveReturns 23 = .ok (.iload_n 3, 1) := by decide +kernel
theorem dX6_solveReturns_24 : decode cX6_solveReturns 24 = .ok (.invokevirtual 95, 3) := by decide +kernel
theorem dX6_solveReturns_27 : decode cX6_solveReturns 27 = .ok (.ifCond .eq 18, 3) := by decide +kernel
theorem dX6_solveReturns_30 : decode cX6_solveReturns 30 = .ok (.aload_n 0, 1) := by decide +kernel
theorem dX6_solveReturns_31 : decode cX6_solveReturns 31 = .ok (.getfield 34, 3) := by decide +kernel
theorem dX6_solveReturns_34 : decode cX6_solveReturns 34 = .ok (.getfield 86, 3) := by decide +kernel
theorem dX6_solveReturns_37 : decode cX6_solveReturns 37 = .ok (.iload_n 3, 1) := by decide +kernel
theorem dX6_solveReturns_38 : decode cX6_solveReturns 38 = .ok (.lconst 0, 1) := by decide +kernel
theorem dX6_solveReturns_39 : decode cX6_solveReturns 39 = .ok (.invokevirtual 114, 3) := by decide +kernel
theorem dX6_solveReturns_42 : decode cX6_solveReturns 42 = .ok (.goto 69, 3) := by decide +kernel
theorem dX6_solveReturns_45 : decode cX6_solveReturns 45 = .ok (.iload_n 3, 1) := by decide +kernel
theorem dX6_solveReturns_46 : decode cX6_solveReturns 46 = .ok (.aload_n 1, 1) := by decide +kernel
theorem dX6_solveReturns_47 : decode cX6_solveReturns 47 = .ok (.iload_n 3, 1) := by decide +kernel
theorem dX6_solveReturns_48 : decode cX6_solveReturns 48 = .ok (.iaload, 1) := by decide +kernel
theorem dX6_solveReturns_49 : decode cX6_solveReturns 49 = .ok (.invokestatic 99, 3) := by decide +kernel
theorem dX6_solveReturns_52 : decode cX6_solveReturns 52 = .ok (.istore 4, 2) := by decide +kernel
theorem dX6_solveReturns_54 : decode cX6_solveReturns 54 = .ok (.aload_n 0, 1) := by decide +kernel
theorem dX6_solveReturns_55 : decode cX6_solveReturns 55 = .ok (.getfield 34, 3) := by decide +kernel
theorem dX6_solveReturns_58 : decode cX6_solveReturns 58 = .ok (.iload_n 3, 1) := by decide +kernel
theorem dX6_solveReturns_59 : decode cX6_solveReturns 59 = .ok (.iload 4, 2) := by decide +kernel
theorem dX6_solveReturns_61 : decode cX6_solveReturns 61 = .ok (.iconst 1, 1) := by decide +kernel
theorem dX6_solveReturns_62 : decode cX6_solveReturns 62 = .ok (.iconst 1, 1) := by decide +kernel
theorem dX6_solveReturns_63 : decode cX6_solveReturns 63 = .ok (.invokevirtual 118, 3) := by decide +kernel
theorem dX6_solveReturns_66 : decode cX6_solveReturns 66 = .ok (.aload_n 0, 1) := by decide +kernel
theorem dX6_solveReturns_67 : decode cX6_solveReturns 67 = .ok (.getfield 34, 3) := by decide +kernel
theorem dX6_solveReturns_70 : decode cX6_solveReturns 70 = .ok (.getfield 86, 3) := by decide +kernel
theorem dX6_solveReturns_73 : decode cX6_solveReturns 73 = .ok (.getfield 122, 3) := by decide +kernel
theorem dX6_solveReturns_76 : decode cX6_solveReturns 76 = .ok (.iload_n 3, 1) := by decide +kernel
theorem dX6_solveReturns_77 : decode cX6_solveReturns 77 = .ok (.aaload, 1) := by decide +kernel
theorem dX6_solveReturns_78 : decode cX6_solveReturns 78 = .ok (.bipush 7, 2) := by decide +kernel
theorem dX6_solveReturns_80 : decode cX6_solveReturns 80 = .ok (.aload_n 0, 1) := by decide +kernel
theorem dX6_solveReturns_81 : decode cX6_solveReturns 81 = .ok (.getfield 26, 3) := by decide +kernel
theorem dX6_solveReturns_84 : decode cX6_solveReturns 84 = .ok (.getfield 126, 3) := by decide +kernel
theorem dX6_solveReturns_87 : decode cX6_solveReturns 87 = .ok (.iload 4, 2) := by decide +kernel
theorem dX6_solveReturns_89 : decode cX6_solveReturns 89 = .ok (.iaload, 1) := by decide +kernel
theorem dX6_solveReturns_90 : decode cX6_solveReturns 90 = .ok (.iload_n 2, 1) := by decide +kernel
theorem dX6_solveReturns_91 : decode cX6_solveReturns 91 = .ok (.ifCond .eq 16, 3) := by decide +kernel
theorem dX6_solveReturns_94 : decode cX6_solveReturns 94 = .ok (.aload_n 0, 1) := by decide +kernel
theorem dX6_solveReturns_95 : decode cX6_solveReturns 95 = .ok (.getfield 26, 3) := by decide +kernel
theorem dX6_solveReturns_98 : decode cX6_solveReturns 98 = .ok (.getfield 129, 3) := by decide +kernel
theorem dX6_solveReturns_101 : decode cX6_solveReturns 101 = .ok (.iload 4, 2) := by decide +kernel
theorem dX6_solveReturns_103 : decode cX6_solveReturns 103 = .ok (.iaload, 1) := by decide +kernel
theorem dX6_solveReturns_104 : decode cX6_solveReturns 104 = .ok (.goto 4, 3) := by decide +kernel
theorem dX6_solveReturns_107 : decode cX6_solveReturns 107 = .ok (.iconst 1, 1) := by decide +kernel
theorem dX6_solveReturns_108 : decode cX6_solveReturns 108 = .ok (.imul, 1) := by decide +kernel
theorem dX6_solveReturns_109 : decode cX6_solveReturns 109 = .ok (.i2l, 1) := by decide +kernel
theorem dX6_solveReturns_110 : decode cX6_solveReturns 110 = .ok (.lastore, 1) := by decide +kernel
theorem dX6_solveReturns_111 : decode cX6_solveReturns 111 = .ok (.iinc 3 1, 3) := by decide +kernel
theorem dX6_solveReturns_114 : decode cX6_solveReturns 114 = .ok (.goto (-112), 3) := by decide +kernel
theorem dX6_solveReturns_117 : decode cX6_solveReturns 117 = .ok (.aload_n 0, 1) := by decide +kernel
theorem dX6_solveReturns_118 : decode cX6_solveReturns 118 = .ok (.getfield 34, 3) := by decide +kernel
theorem dX6_solveReturns_121 : decode cX6_solveReturns 121 = .ok (.invokevirtual 132, 3) := by decide +kernel
theorem dX6_solveReturns_124 : decode cX6_solveReturns 124 = .ok (.return_, 1) := by decide +kernel
theorem dX6_findMean_0 : decode cX6_findMean 0 = .ok (.aload_n 0, 1) := by decide +kernel
theorem dX6_findMean_1 : decode cX6_findMean 1 = .ok (.getfield 26, 3) := by decide +kernel
theorem dX6_findMean_4 : decode cX6_findMean 4 = .ok (.getfield 126, 3) := by decide +kernel
theorem dX6_findMean_7 : decode cX6_findMean 7 = .ok (.iload_n 2, 1) := by decide +kernel
theorem dX6_findMean_8 : decode cX6_findMean 8 = .ok (.iaload, 1) := by decide +kernel
theorem dX6_findMean_9 : decode cX6_findMean 9 = .ok (.aload_n 0, 1) := by decide +kernel
theorem dX6_findMean_10 : decode cX6_findMean 10 = .ok (.getfield 26, 3) := by decide +kernel
theorem dX6_findMean_13 : decode cX6_findMean 13 = .ok (.getfield 129, 3) := by decide +kernel
theorem dX6_findMean_16 : decode cX6_findMean 16 = .ok (.iload_n 2, 1) := by decide +kernel
theorem dX6_findMean_17 : decode cX6_findMean 17 = .ok (.iaload, 1) := by decide +kernel
theorem dX6_findMean_18 : decode cX6_findMean 18 = .ok (.imul, 1) := by decide +kernel
theorem dX6_findMean_19 : decode cX6_findMean 19 = .ok (.i2l, 1) := by decide +kernel
theorem dX6_findMean_20 : decode cX6_findMean 20 = .ok (.aload_n 0, 1) := by decide +kernel
theorem dX6_findMean_21 : decode cX6_findMean 21 = .ok (.getfield 34, 3) := by decide +kernel
theorem dX6_findMean_24 : decode cX6_findMean 24 = .ok (.getfield 86, 3) := by decide +kernel
theorem dX6_findMean_27 : decode cX6_findMean 27 = .ok (.getfield 135, 3) := by decide +kernel
theorem dX6_findMean_30 : decode cX6_findMean 30 = .ok (.lmul, 1) := by decide +kernel
theorem dX6_findMean_31 : decode cX6_findMean 31 = .ok (.lstore_n 3, 1) := by decide +kernel
theorem dX6_findMean_32 : decode cX6_findMean 32 = .ok (.aload_n 0, 1) := by decide +kernel
theorem dX6_findMean_33 : decode cX6_findMean 33 = .ok (.getfield 26, 3) := by decide +kernel
theorem dX6_findMean_36 : decode cX6_findMean 36 = .ok (.getfield 126, 3) := by decide +kernel
theorem dX6_findMean_39 : decode cX6_findMean 39 = .ok (.iload_n 2, 1) := by decide +kernel
theorem dX6_findMean_40 : decode cX6_findMean 40 = .ok (.iaload, 1) := by decide +kernel
theorem dX6_findMean_41 : decode cX6_findMean 41 = .ok (.i2l, 1) := by decide +kernel
theorem dX6_findMean_42 : decode cX6_findMean 42 = .ok (.aload_n 0, 1) := by decide +kernel
theorem dX6_findMean_43 : decode cX6_findMean 43 = .ok (.getfield 34, 3) := by decide +kernel
theorem dX6_findMean_46 : decode cX6_findMean 46 = .ok (.getfield 86, 3) := by decide +kernel
theorem dX6_findMean_49 : decode cX6_findMean 49 = .ok (.getfield 135, 3) := by decide +kernel
theorem dX6_findMean_52 : decode cX6_findMean 52 = .ok (.lmul, 1) := by decide +kernel
theorem dX6_findMean_53 : decode cX6_findMean 53 = .ok (.aload_n 0, 1) := by decide +kernel
theorem dX6_findMean_54 : decode cX6_findMean 54 = .ok (.getfield 34, 3) := by decide +kernel
theorem dX6_findMean_57 : decode cX6_findMean 57 = .ok (.iload_n 2, 1) := by decide +kernel
theorem dX6_findMean_58 : decode cX6_findMean 58 = .ok (.invokevirtual 139, 3) := by decide +kernel
theorem dX6_findMean_61 : decode cX6_findMean 61 = .ok (.ladd, 1) := by decide +kernel
theorem dX6_findMean_62 : decode cX6_findMean 62 = .ok (.lstore 5, 2) := by decide +kernel
theorem dX6_findMean_64 : decode cX6_findMean 64 = .ok (.iconst 0, 1) := by decide +kernel
theorem dX6_findMean_65 : decode cX6_findMean 65 = .ok (.istore 7, 2) := by decide +kernel
theorem dX6_findMean_67 : decode cX6_findMean 67 = .ok (.iload 7, 2) := by decide +kernel
theorem dX6_findMean_69 : decode cX6_findMean 69 = .ok (.aload_n 0, 1) := by decide +kernel
theorem dX6_findMean_70 : decode cX6_findMean 70 = .ok (.getfield 26, 3) := by decide +kernel
theorem dX6_findMean_73 : decode cX6_findMean 73 = .ok (.getfield 44, 3) := by decide +kernel
theorem dX6_findMean_76 : decode cX6_findMean 76 = .ok (.if_icmp .ge 33, 3) := by decide +kernel
theorem dX6_findMean_79 : decode cX6_findMean 79 = .ok (.lload_n 3, 1) := by decide +kernel
theorem dX6_findMean_80 : decode cX6_findMean 80 = .ok (.aload_n 0, 1) := by decide +kernel
theorem dX6_findMean_81 : decode cX6_findMean 81 = .ok (.getfield 26, 3) := by decide +kernel
theorem dX6_findMean_84 : decode cX6_findMean 84 = .ok (.getfield 143, 3) := by decide +kernel
theorem dX6_findMean_87 : decode cX6_findMean 87 = .ok (.iload_n 2, 1) := by decide +kernel
theorem dX6_findMean_88 : decode cX6_findMean 88 = .ok (.aaload, 1) := by decide +kernel
theorem dX6_findMean_89 : decode cX6_findMean 89 = .ok (.iload 7, 2) := by decide +kernel
theorem dX6_findMean_91 : decode cX6_findMean 91 = .ok (.iaload, 1) := by decide +kernel
theorem dX6_findMean_92 : decode cX6_findMean 92 = .ok (.i2l, 1) := by decide +kernel
theorem dX6_findMean_93 : decode cX6_findMean 93 = .ok (.aload_n 0, 1) := by decide +kernel
theorem dX6_findMean_94 : decode cX6_findMean 94 = .ok (.getfield 15, 3) := by decide +kernel
theorem dX6_findMean_97 : decode cX6_findMean 97 = .ok (.iload 7, 2) := by decide +kernel
theorem dX6_findMean_99 : decode cX6_findMean 99 = .ok (.laload, 1) := by decide +kernel
theorem dX6_findMean_100 : decode cX6_findMean 100 = .ok (.lmul, 1) := by decide +kernel
theorem dX6_findMean_101 : decode cX6_findMean 101 = .ok (.ladd, 1) := by decide +kernel
theorem dX6_findMean_102 : decode cX6_findMean 102 = .ok (.lstore_n 3, 1) := by decide +kernel
theorem dX6_findMean_103 : decode cX6_findMean 103 = .ok (.iinc 7 1, 3) := by decide +kernel
theorem dX6_findMean_106 : decode cX6_findMean 106 = .ok (.goto (-39), 3) := by decide +kernel
theorem dX6_findMean_109 : decode cX6_findMean 109 = .ok (.aload_n 0, 1) := by decide +kernel
theorem dX6_findMean_110 : decode cX6_findMean 110 = .ok (.getfield 22, 3) := by decide +kernel
theorem dX6_findMean_113 : decode cX6_findMean 113 = .ok (.iload_n 1, 1) := by decide +kernel
theorem dX6_findMean_114 : decode cX6_findMean 114 = .ok (.lload_n 3, 1) := by decide +kernel
theorem dX6_findMean_115 : decode cX6_findMean 115 = .ok (.lload 5, 2) := by decide +kernel
theorem dX6_findMean_117 : decode cX6_findMean 117 = .ok (.invokestatic 147, 3) := by decide +kernel
theorem dX6_findMean_120 : decode cX6_findMean 120 = .ok (.lload_n 3, 1) := by decide +kernel
theorem dX6_findMean_121 : decode cX6_findMean 121 = .ok (.lload 5, 2) := by decide +kernel
theorem dX6_findMean_123 : decode cX6_findMean 123 = .ok (.invokestatic 151, 3) := by decide +kernel
theorem dX6_findMean_126 : decode cX6_findMean 126 = .ok (.invokevirtual 154, 3) := by decide +kernel
theorem dX6_findMean_129 : decode cX6_findMean 129 = .ok (.return_, 1) := by decide +kernel
theorem dX6_spreadMeans_0 : decode cX6_spreadMeans 0 = .ok (.lconst 1, 1) := by decide +kernel
theorem dX6_spreadMeans_1 : decode cX6_spreadMeans 1 = .ok (.lstore_n 2, 1) := by decide +kernel
theorem dX6_spreadMeans_2 : decode cX6_spreadMeans 2 = .ok (.iconst 0, 1) := by decide +kernel
theorem dX6_spreadMeans_3 : decode cX6_spreadMeans 3 = .ok (.istore 4, 2) := by decide +kernel
theorem dX6_spreadMeans_5 : decode cX6_spreadMeans 5 = .ok (.iload 4, 2) := by decide +kernel
theorem dX6_spreadMeans_7 : decode cX6_spreadMeans 7 = .ok (.aload_n 0, 1) := by decide +kernel
theorem dX6_spreadMeans_8 : decode cX6_spreadMeans 8 = .ok (.getfield 26, 3) := by decide +kernel
theorem dX6_spreadMeans_11 : decode cX6_spreadMeans 11 = .ok (.getfield 44, 3) := by decide +kernel
theorem dX6_spreadMeans_14 : decode cX6_spreadMeans 14 = .ok (.if_icmp .ge 35, 3) := by decide +kernel
theorem dX6_spreadMeans_17 : decode cX6_spreadMeans 17 = .ok (.aload_n 0, 1) := by decide +kernel
theorem dX6_spreadMeans_18 : decode cX6_spreadMeans 18 = .ok (.iload 4, 2) := by decide +kernel
theorem dX6_spreadMeans_20 : decode cX6_spreadMeans 20 = .ok (.invokevirtual 95, 3) := by decide +kernel
theorem dX6_spreadMeans_23 : decode cX6_spreadMeans 23 = .ok (.ifCond .eq 20, 3) := by decide +kernel
theorem dX6_spreadMeans_26 : decode cX6_spreadMeans 26 = .ok (.lload_n 2, 1) := by decide +kernel
theorem dX6_spreadMeans_27 : decode cX6_spreadMeans 27 = .ok (.lload_n 2, 1) := by decide +kernel
theorem dX6_spreadMeans_28 : decode cX6_spreadMeans 28 = .ok (.aload_n 0, 1) := by decide +kernel
theorem dX6_spreadMeans_29 : decode cX6_spreadMeans 29 = .ok (.getfield 22, 3) := by decide +kernel
theorem dX6_spreadMeans_32 : decode cX6_spreadMeans 32 = .ok (.getfield 158, 3) := by decide +kernel
theorem dX6_spreadMeans_35 : decode cX6_spreadMeans 35 = .ok (.iload 4, 2) := by decide +kernel
theorem dX6_spreadMeans_37 : decode cX6_spreadMeans 37 = .ok (.laload, 1) := by decide +kernel
theorem dX6_spreadMeans_38 : decode cX6_spreadMeans 38 = .ok (.invokestatic 151, 3) := by decide +kernel
theorem dX6_spreadMeans_41 : decode cX6_spreadMeans 41 = .ok (.lmul, 1) := by decide +kernel
theorem dX6_spreadMeans_42 : decode cX6_spreadMeans 42 = .ok (.lstore_n 2, 1) := by decide +kernel
theorem dX6_spreadMeans_43 : decode cX6_spreadMeans 43 = .ok (.iinc 4 1, 3) := by decide +kernel
theorem dX6_spreadMeans_46 : decode cX6_spreadMeans 46 = .ok (.goto (-41), 3) := by decide +kernel
theorem dX6_spreadMeans_49 : decode cX6_spreadMeans 49 = .ok (.iconst 0, 1) := by decide +kernel
theorem dX6_spreadMeans_50 : decode cX6_spreadMeans 50 = .ok (.istore 4, 2) := by decide +kernel
theorem dX6_spreadMeans_52 : decode cX6_spreadMeans 52 = .ok (.iload 4, 2) := by decide +kernel
theorem dX6_spreadMeans_54 : decode cX6_spreadMeans 54 = .ok (.aload_n 0, 1) := by decide +kernel
theorem dX6_spreadMeans_55 : decode cX6_spreadMeans 55 = .ok (.getfield 26, 3) := by decide +kernel
theorem dX6_spreadMeans_58 : decode cX6_spreadMeans 58 = .ok (.getfield 44, 3) := by decide +kernel
theorem dX6_spreadMeans_61 : decode cX6_spreadMeans 61 = .ok (.if_icmp .ge 91, 3) := by decide +kernel
theorem dX6_spreadMeans_64 : decode cX6_spreadMeans 64 = .ok (.aload_n 0, 1) := by decide +kernel
theorem dX6_spreadMeans_65 : decode cX6_spreadMeans 65 = .ok (.getfield 9, 3) := by decide +kernel
theorem dX6_spreadMeans_68 : decode cX6_spreadMeans 68 = .ok (.iload 4, 2) := by decide +kernel
theorem dX6_spreadMeans_70 : decode cX6_spreadMeans 70 = .ok (.iaload, 1) := by decide +kernel
theorem dX6_spreadMeans_71 : decode cX6_spreadMeans 71 = .ok (.ifCond .ne 26, 3) := by decide +kernel
theorem dX6_spreadMeans_74 : decode cX6_spreadMeans 74 = .ok (.aload_n 0, 1) := by decide +kernel
theorem dX6_spreadMeans_75 : decode cX6_spreadMeans 75 = .ok (.getfield 34, 3) := by decide +kernel
theorem dX6_spreadMeans_78 : decode cX6_spreadMeans 78 = .ok (.iload 4, 2) := by decide +kernel
theorem dX6_spreadMeans_80 : decode cX6_spreadMeans 80 = .ok (.iload 4, 2) := by decide +kernel
theorem dX6_spreadMeans_82 : decode cX6_spreadMeans 82 = .ok (.aload_n 1, 1) := by decide +kernel
theorem dX6_spreadMeans_83 : decode cX6_spreadMeans 83 = .ok (.iload 4, 2) := by decide +kernel
theorem dX6_spreadMeans_85 : decode cX6_spreadMeans 85 = .ok (.iaload, 1) := by decide +kernel
theorem dX6_spreadMeans_86 : decode cX6_spreadMeans 86 = .ok (.invokestatic 99, 3) := by decide +kernel
theorem dX6_spreadMeans_89 : decode cX6_spreadMeans 89 = .ok (.iconst 1, 1) := by decide +kernel
theorem dX6_spreadMeans_90 : decode cX6_spreadMeans 90 = .ok (.iconst 1, 1) := by decide +kernel
theorem dX6_spreadMeans_91 : decode cX6_spreadMeans 91 = .ok (.invokevirtual 118, 3) := by decide +kernel
theorem dX6_spreadMeans_94 : decode cX6_spreadMeans 94 = .ok (.goto 52, 3) := by decide +kernel
theorem dX6_spreadMeans_97 : decode cX6_spreadMeans 97 = .ok (.aload_n 0, 1) := by decide +kernel
theorem dX6_spreadMeans_98 : decode cX6_spreadMeans 98 = .ok (.getfield 9, 3) := by decide +kernel
theorem dX6_spreadMeans_101 : decode cX6_spreadMeans 101 = .ok (.iload 4, 2) := by decide +kernel
theorem dX6_spreadMeans_103 : decode cX6_spreadMeans 103 = .ok (.iaload, 1) := by decide +kernel
theorem dX6_spreadMeans_104 : decode cX6_spreadMeans 104 = .ok (.invokestatic 109, 3) := by decide +kernel
theorem dX6_spreadMeans_107 : decode cX6_spreadMeans 107 = .ok (.istore 5, 2) := by decide +kernel
theorem dX6_spreadMeans_109 : decode cX6_spreadMeans 109 = .ok (.aload_n 0, 1) := by decide +kernel
theorem dX6_spreadMeans_110 : decode cX6_spreadMeans 110 = .ok (.getfield 34, 3) := by decide +kernel
theorem dX6_spreadMeans_113 : decode cX6_spreadMeans 113 = .ok (.getfield 86, 3) := by decide +kernel
theorem dX6_spreadMeans_116 : decode cX6_spreadMeans 116 = .ok (.iload 4, 2) := by decide +kernel
theorem dX6_spreadMeans_118 : decode cX6_spreadMeans 118 = .ok (.aload_n 0, 1) := by decide +kernel
theorem dX6_spreadMeans_119 : decode cX6_spreadMeans 119 = .ok (.getfield 22, 3) := by decide +kernel
theorem dX6_spreadMeans_122 : decode cX6_spreadMeans 122 = .ok (.getfield 161, 3) := by decide +kernel
theorem dX6_spreadMeans_125 : decode cX6_spreadMeans 125 = .ok (.iload 5, 2) := by decide +kernel
theorem dX6_spreadMeans_127 : decode cX6_spreadMeans 127 = .ok (.laload, 1) := by decide +kernel
theorem dX6_spreadMeans_128 : decode cX6_spreadMeans 128 = .ok (.lload_n 2, 1) := by decide +kernel
theorem dX6_spreadMeans_129 : decode cX6_spreadMeans 129 = .ok (.aload_n 0, 1) := by decide +kernel
theorem dX6_spreadMeans_130 : decode cX6_spreadMeans 130 = .ok (.getfield 22, 3) := by decide +kernel
theorem dX6_spreadMeans_133 : decode cX6_spreadMeans 133 = .ok (.getfield 158, 3) := by decide +kernel
theorem dX6_spreadMeans_136 : decode cX6_spreadMeans 136 = .ok (.iload 5, 2) := by decide +kernel
theorem dX6_spreadMeans_138 : decode cX6_spreadMeans 138 = .ok (.laload, 1) := by decide +kernel
theorem dX6_spreadMeans_139 : decode cX6_spreadMeans 139 = .ok (.invokestatic 164, 3) := by decide +kernel
theorem dX6_spreadMeans_142 : decode cX6_spreadMeans 142 = .ok (.lmul, 1) := by decide +kernel
theorem dX6_spreadMeans_143 : decode cX6_spreadMeans 143 = .ok (.invokevirtual 114, 3) := by decide +kernel
theorem dX6_spreadMeans_146 : decode cX6_spreadMeans 146 = .ok (.iinc 4 1, 3) := by decide +kernel
theorem dX6_spreadMeans_149 : decode cX6_spreadMeans 149 = .ok (.goto (-97), 3) := by decide +kernel
theorem dX6_spreadMeans_152 : decode cX6_spreadMeans 152 = .ok (.aload_n 0, 1) := by decide +kernel
theorem dX6_spreadMeans_153 : decode cX6_spreadMeans 153 = .ok (.getfield 34, 3) := by decide +kernel
theorem dX6_spreadMeans_156 : decode cX6_spreadMeans 156 = .ok (.invokevirtual 132, 3) := by decide +kernel
theorem dX6_spreadMeans_159 : decode cX6_spreadMeans 159 = .ok (.aload_n 0, 1) := by decide +kernel
theorem dX6_spreadMeans_160 : decode cX6_spreadMeans 160 = .ok (.getfield 34, 3) := by decide +kernel
theorem dX6_spreadMeans_163 : decode cX6_spreadMeans 163 = .ok (.getfield 86, 3) := by decide +kernel
theorem dX6_spreadMeans_166 : decode cX6_spreadMeans 166 = .ok (.dup, 1) := by decide +kernel
theorem dX6_spreadMeans_167 : decode cX6_spreadMeans 167 = .ok (.getfield 135, 3) := by decide +kernel
theorem dX6_spreadMeans_170 : decode cX6_spreadMeans 170 = .ok (.lload_n 2, 1) := by decide +kernel
theorem dX6_spreadMeans_171 : decode cX6_spreadMeans 171 = .ok (.lmul, 1) := by decide +kernel
theorem dX6_spreadMeans_172 : decode cX6_spreadMeans 172 = .ok (.putfield 135, 3) := by decide +kernel
theorem dX6_spreadMeans_175 : decode cX6_spreadMeans 175 = .ok (.return_, 1) := by decide +kernel
theorem dX7_init_0 : decode cX7_init 0 = .ok (.aload_n 0, 1) := by decide +kernel
theorem dX7_init_1 : decode cX7_init 1 = .ok (.invokespecial 3, 3) := by decide +kernel
theorem dX7_init_4 : decode cX7_init 4 = .ok (.aload_n 0, 1) := by decide +kernel
theorem dX7_init_5 : decode cX7_init 5 = .ok (.bipush 7, 2) := by decide +kernel
theorem dX7_init_7 : decode cX7_init 7 = .ok (.newarray .int, 2) := by decide +kernel
theorem dX7_init_9 : decode cX7_init 9 = .ok (.putfield 9, 3) := by decide +kernel
theorem dX7_init_12 : decode cX7_init 12 = .ok (.aload_n 0, 1) := by decide +kernel
theorem dX7_init_13 : decode cX7_init 13 = .ok (.new 15, 3) := by decide +kernel
theorem dX7_init_16 : decode cX7_init 16 = .ok (.dup, 1) := by decide +kernel
theorem dX7_init_17 : decode cX7_init 17 = .ok (.invokespecial 17, 3) := by decide +kernel
theorem dX7_init_20 : decode cX7_init 20 = .ok (.putfield 18, 3) := by decide +kernel
theorem dX7_init_23 : decode cX7_init 23 = .ok (.aload_n 0, 1) := by decide +kernel
theorem dX7_init_24 : decode cX7_init 24 = .ok (.iconst 4, 1) := by decide +kernel
theorem dX7_init_25 : decode cX7_init 25 = .ok (.anewarray 15, 3) := by decide +kernel
theorem dX7_init_28 : decode cX7_init 28 = .ok (.putfield 22, 3) := by decide +kernel
theorem dX7_init_31 : decode cX7_init 31 = .ok (.aload_n 0, 1) := by decide +kernel
theorem dX7_init_32 : decode cX7_init 32 = .ok (.iconst 4, 1) := by decide +kernel
theorem dX7_init_33 : decode cX7_init 33 = .ok (.newarray .int, 2) := by decide +kernel
theorem dX7_init_35 : decode cX7_init 35 = .ok (.putfield 26, 3) := by decide +kernel
theorem dX7_init_38 : decode cX7_init 38 = .ok (.aload_n 0, 1) := by decide +kernel
theorem dX7_init_39 : decode cX7_init 39 = .ok (.aload_n 1, 1) := by decide +kernel
theorem dX7_init_40 : decode cX7_init 40 = .ok (.putfield 29, 3) := by decide +kernel
theorem dX7_init_43 : decode cX7_init 43 = .ok (.aload_n 0, 1) := by decide +kernel
theorem dX7_init_44 : decode cX7_init 44 = .ok (.aload_n 2, 1) := by decide +kernel
theorem dX7_init_45 : decode cX7_init 45 = .ok (.putfield 33, 3) := by decide +kernel
theorem dX7_init_48 : decode cX7_init 48 = .ok (.iconst 0, 1) := by decide +kernel
theorem dX7_init_49 : decode cX7_init 49 = .ok (.istore_n 3, 1) := by decide +kernel
theorem dX7_init_50 : decode cX7_init 50 = .ok (.iload_n 3, 1) := by decide +kernel
theorem dX7_init_51 : decode cX7_init 51 = .ok (.iconst 4, 1) := by decide +kernel
theorem dX7_init_52 : decode cX7_init 52 = .ok (.if_icmp .ge 29, 3) := by decide +kernel
theorem dX7_init_55 : decode cX7_init 55 = .ok (.aload_n 0, 1) := by decide +kernel
theorem dX7_init_56 : decode cX7_init 56 = .ok (.getfield 22, 3) := by decide +kernel
theorem dX7_init_59 : decode cX7_init 59 = .ok (.iload_n 3, 1) := by decide +kernel
theorem dX7_init_60 : decode cX7_init 60 = .ok (.new 15, 3) := by decide +kernel
theorem dX7_init_63 : decode cX7_init 63 = .ok (.dup, 1) := by decide +kernel
theorem dX7_init_64 : decode cX7_init 64 = .ok (.invokespecial 17, 3) := by decide +kernel
theorem dX7_init_67 : decode cX7_init 67 = .ok (.aastore, 1) := by decide +kernel
theorem dX7_init_68 : decode cX7_init 68 = .ok (.aload_n 0, 1) := by decide +kernel
theorem dX7_init_69 : decode cX7_init 69 = .ok (.getfield 26, 3) := by decide +kernel
theorem dX7_init_72 : decode cX7_init 72 = .ok (.iload_n 3, 1) := by decide +kernel
theorem dX7_init_73 : decode cX7_init 73 = .ok (.iconst (-1), 1) := by decide +kernel
theorem dX7_init_74 : decode cX7_init 74 = .ok (.iastore, 1) := by decide +kernel
theorem dX7_init_75 : decode cX7_init 75 = .ok (.iinc 3 1, 3) := by decide +kernel
theorem dX7_init_78 : decode cX7_init 78 = .ok (.goto (-28), 3) := by decide +kernel
theorem dX7_init_81 : decode cX7_init 81 = .ok (.return_, 1) := by decide +kernel
theorem dX7_valuesFor_0 : decode cX7_valuesFor 0 = .ok (.iload_n 1, 1) := by decide +kernel
theorem dX7_valuesFor_1 : decode cX7_valuesFor 1 = .ok (.bipush 114, 2) := by decide +kernel
theorem dX7_valuesFor_3 : decode cX7_valuesFor 3 = .ok (.if_icmp .ne 7, 3) := by decide +kernel
theorem dX7_valuesFor_6 : decode cX7_valuesFor 6 = .ok (.iconst 0, 1) := by decide +kernel
theorem dX7_valuesFor_7 : decode cX7_valuesFor 7 = .ok (.goto 24, 3) := by decide +kernel
theorem dX7_valuesFor_10 : decode cX7_valuesFor 10 = .ok (.iload_n 1, 1) := by decide +kernel
theorem dX7_valuesFor_11 : decode cX7_valuesFor 11 = .ok (.bipush 102, 2) := by decide +kernel
theorem dX7_valuesFor_13 : decode cX7_valuesFor 13 = .ok (.if_icmp .ne 7, 3) := by decide +kernel
theorem dX7_valuesFor_16 : decode cX7_valuesFor 16 = .ok (.iconst 1, 1) := by decide +kernel
theorem dX7_valuesFor_17 : decode cX7_valuesFor 17 = .ok (.goto 14, 3) := by decide +kernel
theorem dX7_valuesFor_20 : decode cX7_valuesFor 20 = .ok (.iload_n 1, 1) := by decide +kernel
theorem dX7_valuesFor_21 : decode cX7_valuesFor 21 = .ok (.bipush 115, 2) := by decide +kernel
theorem dX7_valuesFor_23 : decode cX7_valuesFor 23 = .ok (.if_icmp .ne 7, 3) := by decide +kernel
theorem dX7_valuesFor_26 : decode cX7_valuesFor 26 = .ok (.iconst 2, 1) := by decide +kernel
theorem dX7_valuesFor_27 : decode cX7_valuesFor 27 = .ok (.goto 4, 3) := by decide +kernel
theorem dX7_valuesFor_30 : decode cX7_valuesFor 30 = .ok (.iconst 3, 1) := by decide +kernel
theorem dX7_valuesFor_31 : decode cX7_valuesFor 31 = .ok (.istore_n 2, 1) := by decide +kernel
theorem dX7_valuesFor_32 : decode cX7_valuesFor 32 = .ok (.aload_n 0, 1) := by decide +kernel
theorem dX7_valuesFor_33 : decode cX7_valuesFor 33 = .ok (.getfield 22, 3) := by decide +kernel
theorem dX7_valuesFor_36 : decode cX7_valuesFor 36 = .ok (.iload_n 2, 1) := by decide +kernel
theorem dX7_valuesFor_37 : decode cX7_valuesFor 37 = .ok (.aaload, 1) := by decide +kernel
theorem dX7_valuesFor_38 : decode cX7_valuesFor 38 = .ok (.astore_n 3, 1) := by decide +kernel
theorem dX7_valuesFor_39 : decode cX7_valuesFor 39 = .ok (.aload_n 0, 1) := by decide +kernel
theorem dX7_valuesFor_40 : decode cX7_valuesFor 40 = .ok (.getfield 26, 3) := by decide +kernel
theorem dX7_valuesFor_43 : decode cX7_valuesFor 43 = .ok (.iload_n 2, 1) := by decide +kernel
theorem dX7_valuesFor_44 : decode cX7_valuesFor 44 = .ok (.iaload, 1) := by decide +kernel
theorem dX7_valuesFor_45 : decode cX7_valuesFor 45 = .ok (.aload_n 0, 1) := by decide +kernel
theorem dX7_valuesFor_46 : decode cX7_valuesFor 46 = .ok (.getfield 29, 3) := by decide +kernel
theorem dX7_valuesFor_49 : decode cX7_valuesFor 49 = .ok (.getfield 37, 3) := by decide +kernel
theorem dX7_valuesFor_52 : decode cX7_valuesFor 52 = .ok (.if_icmp .eq 22, 3) := by decide +kernel
theorem dX7_valuesFor_55 : decode cX7_valuesFor 55 = .ok (.aload_n 0, 1) := by decide +kernel
theorem dX7_valuesFor_56 : decode cX7_valuesFor 56 = .ok (.iload_n 1, 1) := by decide +kernel
theorem dX7_valuesFor_57 : decode cX7_valuesFor 57 = .ok (.aload_n 3, 1) := by decide +kernel
theorem dX7_valuesFor_58 : decode cX7_valuesFor 58 = .ok (.invokevirtual 43, 3) := by decide +kernel
theorem dX7_valuesFor_61 : decode cX7_valuesFor 61 = .ok (.aload_n 0, 1) := by decide +kernel
theorem dX7_valuesFor_62 : decode cX7_valuesFor 62 = .ok (.getfield 26, 3) := by decide +kernel
theorem dX7_valuesFor_65 : decode cX7_valuesFor 65 = .ok (.iload_n 2, 1) := by decide +kernel
theorem dX7_valuesFor_66 : decode cX7_valuesFor 66 = .ok (.aload_n 0, 1) := by decide +kernel
theorem dX7_valuesFor_67 : decode cX7_valuesFor 67 = .ok (.getfield 29, 3) := by decide +kernel
theorem dX7_valuesFor_70 : decode cX7_valuesFor 70 = .ok (.getfield 37, 3) := by decide +kernel
theorem dX7_valuesFor_73 : decode cX7_valuesFor 73 = .ok (.iastore, 1) := by decide +kernel
theorem dX7_valuesFor_74 : decode cX7_valuesFor 74 = .ok (.aload_n 3, 1) := by decide +kernel
theorem dX7_valuesFor_75 : decode cX7_valuesFor 75 = .ok (.areturn, 1) := by decide +kernel
theorem dX7_sweepAll_0 : decode cX7_sweepAll 0 = .ok (.iconst 0, 1) := by decide +kernel
theorem dX7_sweepAll_1 : decode cX7_sweepAll 1 = .ok (.istore_n 3, 1) := by decide +kernel
theorem dX7_sweepAll_2 : decode cX7_sweepAll 2 = .ok (.iload_n 3, 1) := by decide +kernel
theorem dX7_sweepAll_3 : decode cX7_sweepAll 3 = .ok (.aload_n 0, 1) := by decide +kernel
theorem dX7_sweepAll_4 : decode cX7_sweepAll 4 = .ok (.getfield 29, 3) := by decide +kernel
theorem dX7_sweepAll_7 : decode cX7_sweepAll 7 = .ok (.getfield 47, 3) := by decide +kernel
theorem dX7_sweepAll_10 : decode cX7_sweepAll 10 = .ok (.if_icmp .ge 16, 3) := by decide +kernel
theorem dX7_sweepAll_13 : decode cX7_sweepAll 13 = .ok (.aload_n 0, 1) := by decide +kernel
theorem dX7_sweepAll_14 : decode cX7_sweepAll 14 = .ok (.getfield 9, 3) := by decide +kernel
theorem dX7_sweepAll_17 : decode cX7_sweepAll 17 = .ok (.iload_n 3, 1) := by decide +kernel
theorem dX7_sweepAll_18 : decode cX7_sweepAll 18 = .ok (.iconst 0, 1) := by decide +kernel
theorem dX7_sweepAll_19 : decode cX7_sweepAll 19 = .ok (.iastore, 1) := by decide +kernel
theorem dX7_sweepAll_20 : decode cX7_sweepAll 20 = .ok (.iinc 3 1, 3) := by decide +kernel
theorem dX7_sweepAll_23 : decode cX7_sweepAll 23 = .ok (.goto (-21), 3) := by decide +kernel
theorem dX7_sweepAll_26 : decode cX7_sweepAll 26 = .ok (.aload_n 0, 1) := by decide +kernel
theorem dX7_sweepAll_27 : decode cX7_sweepAll 27 = .ok (.getfield 33, 3) := by decide +kernel
theorem dX7_sweepAll_30 : decode cX7_sweepAll 30 = .ok (.invokevirtual 50, 3) := by decide +kernel
theorem dX7_sweepAll_33 : decode cX7_sweepAll 33 = .ok (.iconst 1, 1) := by decide +kernel
theorem dX7_sweepAll_34 : decode cX7_sweepAll 34 = .ok (.istore_n 3, 1) := by decide +kernel
theorem dX7_sweepAll_35 : decode cX7_sweepAll 35 = .ok (.iconst 1, 1) := by decide +kernel
theorem dX7_sweepAll_36 : decode cX7_sweepAll 36 = .ok (.istore 4, 2) := by decide +kernel
theorem dX7_sweepAll_38 : decode cX7_sweepAll 38 = .ok (.iconst 0, 1) := by decide +kernel
theorem dX7_sweepAll_39 : decode cX7_sweepAll 39 = .ok (.istore 5, 2) := by decide +kernel
theorem dX7_sweepAll_41 : decode cX7_sweepAll 41 = .ok (.iconst 0, 1) := by decide +kernel
theorem dX7_sweepAll_42 : decode cX7_sweepAll 42 = .ok (.istore 6, 2) := by decide +kernel
theorem dX7_sweepAll_44 : decode cX7_sweepAll 44 = .ok (.iload 5, 2) := by decide +kernel
theorem dX7_sweepAll_46 : decode cX7_sweepAll 46 = .ok (.ifCond .lt 74, 3) := by decide +kernel
theorem dX7_sweepAll_49 : decode cX7_sweepAll 49 = .ok (.iload 6, 2) := by decide +kernel
theorem dX7_sweepAll_51 : decode cX7_sweepAll 51 = .ok (.sipush 2187, 3) := by decide +kernel
theorem dX7_sweepAll_54 : decode cX7_sweepAll 54 = .ok (.if_icmp .ge 66, 3) := by decide +kernel
theorem dX7_sweepAll_57 : decode cX7_sweepAll 57 = .ok (.aload_n 0, 1) := by decide +kernel
theorem dX7_sweepAll_58 : decode cX7_sweepAll 58 = .ok (.getfield 33, 3) := by decide +kernel
theorem dX7_sweepAll_61 : decode cX7_sweepAll 61 = .ok (.iload_n 1, 1) := by decide +kernel
theorem dX7_sweepAll_62 : decode cX7_sweepAll 62 = .ok (.aload_n 0, 1) := by decide +kernel
theorem dX7_sweepAll_63 : decode cX7_sweepAll 63 = .ok (.getfield 9, 3) := by decide +kernel
theorem dX7_sweepAll_66 : decode cX7_sweepAll 66 = .ok (.iload 5, 2) := by decide +kernel
theorem dX7_sweepAll_68 : decode cX7_sweepAll 68 = .ok (.invokevirtual 55, 3) := by decide +kernel
theorem dX7_sweepAll_71 : decode cX7_sweepAll 71 = .ok (.aload_n 0, 1) := by decide +kernel
theorem dX7_sweepAll_72 : decode cX7_sweepAll 72 = .ok (.iload_n 3, 1) := by decide +kernel
theorem dX7_sweepAll_73 : decode cX7_sweepAll 73 = .ok (.invokevirtual 59, 3) := by decide +kernel
theorem dX7_sweepAll_76 : decode cX7_sweepAll 76 = .ok (.aload_n 0, 1) := by decide +kernel
theorem dX7_sweepAll_77 : decode cX7_sweepAll 77 = .ok (.invokevirtual 63, 3) := by decide +kernel
theorem dX7_sweepAll_80 : decode cX7_sweepAll 80 = .ok (.istore 5, 2) := by decide +kernel
theorem dX7_sweepAll_82 : decode cX7_sweepAll 82 = .ok (.iload 5, 2) := by decide +kernel
theorem dX7_sweepAll_84 : decode cX7_sweepAll 84 = .ok (.aload_n 0, 1) := by decide +kernel
theorem dX7_sweepAll_85 : decode cX7_sweepAll 85 = .ok (.getfield 33, 3) := by decide +kernel
theorem dX7_sweepAll_88 : decode cX7_sweepAll 88 = .ok (.getfield 67, 3) := by decide +kernel
theorem dX7_sweepAll_91 : decode cX7_sweepAll 91 = .ok (.if_icmp .ge 7, 3) := by decide +kernel
theorem dX7_sweepAll_94 : decode cX7_sweepAll 94 = .ok (.iconst 1, 1) := by decide +kernel
theorem dX7_sweepAll_95 : decode cX7_sweepAll 95 = .ok (.goto 4, 3) := by decide +kernel
theorem dX7_sweepAll_98 : decode cX7_sweepAll 98 = .ok (.iconst 0, 1) := by decide +kernel
theorem dX7_sweepAll_99 : decode cX7_sweepAll 99 = .ok (.istore_n 3, 1) := by decide +kernel
theorem dX7_sweepAll_100 : decode cX7_sweepAll 100 = .ok (.iload_n 3, 1) := by decide +kernel
theorem dX7_sweepAll_101 : decode cX7_sweepAll 101 = .ok (.ifCond .eq 13, 3) := by decide +kernel
theorem dX7_sweepAll_104 : decode cX7_sweepAll 104 = .ok (.aload_n 0, 1) := by decide +kernel
theorem dX7_sweepAll_105 : decode cX7_sweepAll 105 = .ok (.aload_n 2, 1) := by decide +kernel
theorem dX7_sweepAll_106 : decode cX7_sweepAll 106 = .ok (.iload 4, 2) := by decide +kernel
theorem dX7_sweepAll_108 : decode cX7_sweepAll 108 = .ok (.invokevirtual 70, 3) := by decide +kernel
theorem dX7_sweepAll_111 : decode cX7_sweepAll 111 = .ok (.iconst 0, 1) := by decide +kernel
theorem dX7_sweepAll_112 : decode cX7_sweepAll 112 = .ok (.istore 4, 2) := by decide +kernel
theorem dX7_sweepAll_114 : decode cX7_sweepAll 114 = .ok (.iinc 6 1, 3) := by decide +kernel
theorem dX7_sweepAll_117 : decode cX7_sweepAll 117 = .ok (.goto (-73), 3) := by decide +kernel
theorem dX7_sweepAll_120 : decode cX7_sweepAll 120 = .ok (.return_, 1) := by decide +kernel
theorem dX7_takeLeast_0 : decode cX7_takeLeast 0 = .ok (.aload_n 0, 1) := by decide +kernel
theorem dX7_takeLeast_1 : decode cX7_takeLeast 1 = .ok (.getfield 33, 3) := by decide +kernel
theorem dX7_takeLeast_4 : decode cX7_takeLeast 4 = .ok (.getfield 74, 3) := by decide +kernel
theorem dX7_takeLeast_7 : decode cX7_takeLeast 7 = .ok (.getfield 78, 3) := by decide +kernel
theorem dX7_takeLeast_10 : decode cX7_takeLeast 10 = .ok (.lstore_n 2, 1) := by decide +kernel
theorem dX7_takeLeast_11 : decode cX7_takeLeast 11 = .ok (.iconst 0, 1) := by decide +kernel
theorem dX7_takeLeast_12 : decode cX7_takeLeast 12 = .ok (.istore 4, 2) := by decide +kernel
theorem dX7_takeLeast_14 : decode cX7_takeLeast 14 = .ok (.iload 4, 2) := by decide +kernel
theorem dX7_takeLeast_16 : decode cX7_takeLeast 16 = .ok (.aload_n 0, 1) := by decide +kernel
theorem dX7_takeLeast_17 : decode cX7_takeLeast 17 = .ok (.getfield 29, 3) := by decide +kernel
theorem dX7_takeLeast_20 : decode cX7_takeLeast 20 = .ok (.getfield 47, 3) := by decide +kernel
theorem dX7_takeLeast_23 : decode cX7_takeLeast 23 = .ok (.if_icmp .ge 69, 3) := by decide +kernel
theorem dX7_takeLeast_26 : decode cX7_takeLeast 26 = .ok (.aload_n 0, 1) := by decide +kernel
theorem dX7_takeLeast_27 : decode cX7_takeLeast 27 = .ok (.getfield 33, 3) := by decide +kernel
theorem dX7_takeLeast_30 : decode cX7_takeLeast 30 = .ok (.getfield 74, 3) := by decide +kernel
theorem dX7_takeLeast_33 : decode cX7_takeLeast 33 = .ok (.getfield 84, 3) := by decide +kernel
theorem dX7_takeLeast_36 : decode cX7_takeLeast 36 = .ok (.iload 4, 2) := by decide +kernel
theorem dX7_takeLeast_38 : decode cX7_takeLeast 38 = .ok (.laload, 1) := by decide +kernel
theorem dX7_takeLeast_39 : decode cX7_takeLeast 39 = .ok (.lstore 5, 2) := by decide +kernel
theorem dX7_takeLeast_41 : decode cX7_takeLeast 41 = .ok (.iload_n 1, 1) := by decide +kernel
theorem dX7_takeLeast_42 : decode cX7_takeLeast 42 = .ok (.ifCond .ne 32, 3) := by decide +kernel
theorem dX7_takeLeast_45 : decode cX7_takeLeast 45 = .ok (.lload 5, 2) := by decide +kernel
theorem dX7_takeLeast_47 : decode cX7_takeLeast 47 = .ok (.lload_n 2, 1) := by decide +kernel
theorem dX7_takeLeast_48 : decode cX7_takeLeast 48 = .ok (.aload_n 0, 1) := by decide +kernel
theorem dX7_takeLeast_49 : decode cX7_takeLeast 49 = .ok (.getfield 18, 3) := by decide +kernel
theorem dX7_takeLeast_52 : decode cX7_takeLeast 52 = .ok (.getfield 88, 3) := by decide +kernel
theorem dX7_takeLeast_55 : decode cX7_takeLeast 55 = .ok (.iload 4, 2) := by decide +kernel
theorem dX7_takeLeast_57 : decode cX7_takeLeast 57 = .ok (.laload, 1) := by decide +kernel
theorem dX7_takeLeast_58 : decode cX7_takeLeast 58 = .ok (.aload_n 0, 1) := by decide +kernel
theorem dX7_takeLeast_59 : decode cX7_takeLeast 59 = .ok (.getfield 18, 3) := by decide +kernel
theorem dX7_takeLeast_62 : decode cX7_takeLeast 62 = .ok (.getfield 91, 3) := by decide +kernel
theorem dX7_takeLeast_65 : decode cX7_takeLeast 65 = .ok (.iload 4, 2) := by decide +kernel
theorem dX7_takeLeast_67 : decode cX7_takeLeast 67 = .ok (.laload, 1) := by decide +kernel
theorem dX7_takeLeast_68 : decode cX7_takeLeast 68 = .ok (.invokestatic 94, 3) := by decide +kernel
theorem dX7_takeLeast_71 : decode cX7_takeLeast 71 = .ok (.ifCond .ge 15, 3) := by decide +kernel
theorem dX7_takeLeast_74 : decode cX7_takeLeast 74 = .ok (.aload_n 0, 1) := by decide +kernel
theorem dX7_takeLeast_75 : decode cX7_takeLeast 75 = .ok (.getfield 18, 3) := by decide +kernel
theorem dX7_takeLeast_78 : decode cX7_takeLeast 78 = .ok (.iload 4, 2) := by decide +kernel
theorem dX7_takeLeast_80 : decode cX7_takeLeast 80 = .ok (.lload 5, 2) := by decide +kernel
theorem dX7_takeLeast_82 : decode cX7_takeLeast 82 = .ok (.lload_n 2, 1) := by decide +kernel
theorem dX7_takeLeast_83 : decode cX7_takeLeast 83 = .ok (.invokevirtual 98, 3) := by decide +kernel
theorem dX7_takeLeast_86 : decode cX7_takeLeast 86 = .ok (.iinc 4 1, 3) := by decide +kernel
theorem dX7_takeLeast_89 : decode cX7_takeLeast 89 = .ok (.goto (-75), 3) := by decide +kernel
theorem dX7_takeLeast_92 : decode cX7_takeLeast 92 = .ok (.return_, 1) := by decide +kernel
theorem dX7_takeGreatest_0 : decode cX7_takeGreatest 0 = .ok (.iconst 0, 1) := by decide +kernel
theorem dX7_takeGreatest_1 : decode cX7_takeGreatest 1 = .ok (.istore_n 3, 1) := by decide +kernel
theorem dX7_takeGreatest_2 : decode cX7_takeGreatest 2 = .ok (.iload_n 3, 1) := by decide +kernel
theorem dX7_takeGreatest_3 : decode cX7_takeGreatest 3 = .ok (.aload_n 0, 1) := by decide +kernel
theorem dX7_takeGreatest_4 : decode cX7_takeGreatest 4 = .ok (.getfield 29, 3) := by decide +kernel
theorem dX7_takeGreatest_7 : decode cX7_takeGreatest 7 = .ok (.getfield 47, 3) := by decide +kernel
theorem dX7_takeGreatest_10 : decode cX7_takeGreatest 10 = .ok (.if_icmp .ge 72, 3) := by decide +kernel
theorem dX7_takeGreatest_13 : decode cX7_takeGreatest 13 = .ok (.iload_n 2, 1) := by decide +kernel
theorem dX7_takeGreatest_14 : decode cX7_takeGreatest 14 = .ok (.ifCond .ne 39, 3) := by decide +kernel
theorem dX7_takeGreatest_17 : decode cX7_takeGreatest 17 = .ok (.aload_n 0, 1) := by decide +kernel
theorem dX7_takeGreatest_18 : decode cX7_takeGreatest 18 = .ok (.getfield 18, 3) := by decide +kernel
theorem dX7_takeGreatest_21 : decode cX7_takeGreatest 21 = .ok (.getfield 88, 3) := by decide +kernel
theorem dX7_takeGreatest_24 : decode cX7_takeGreatest 24 = .ok (.iload_n 3, 1) := by decide +kernel
theorem dX7_takeGreatest_25 : decode cX7_takeGreatest 25 = .ok (.laload, 1) := by decide +kernel
theorem dX7_takeGreatest_26 : decode cX7_takeGreatest 26 = .ok (.aload_n 0, 1) := by decide +kernel
theorem dX7_takeGreatest_27 : decode cX7_takeGreatest 27 = .ok (.getfield 18, 3) := by decide +kernel
theorem dX7_takeGreatest_30 : decode cX7_takeGreatest 30 = .ok (.getfield 91, 3) := by decide +kernel
theorem dX7_takeGreatest_33 : decode cX7_takeGreatest 33 = .ok (.iload_n 3, 1) := by decide +kernel
theorem dX7_takeGreatest_34 : decode cX7_takeGreatest 34 = .ok (.laload, 1) := by decide +kernel
theorem dX7_takeGreatest_35 : decode cX7_takeGreatest 35 = .ok (.aload_n 1, 1) := by decide +kernel
theorem dX7_takeGreatest_36 : decode cX7_takeGreatest 36 = .ok (.getfield 88, 3) := by decide +kernel
theorem dX7_takeGreatest_39 : decode cX7_takeGreatest 39 = .ok (.iload_n 3, 1) := by decide +kernel
theorem dX7_takeGreatest_40 : decode cX7_takeGreatest 40 = .ok (.laload, 1) := by decide +kernel
theorem dX7_takeGreatest_41 : decode cX7_takeGreatest 41 = .ok (.aload_n 1, 1) := by decide +kernel
theorem dX7_takeGreatest_42 : decode cX7_takeGreatest 42 = .ok (.getfield 91, 3) := by decide +kernel
theorem dX7_takeGreatest_45 : decode cX7_takeGreatest 45 = .ok (.iload_n 3, 1) := by decide +kernel
theorem dX7_takeGreatest_46 : decode cX7_takeGreatest 46 = .ok (.laload, 1) := by decide +kernel
theorem dX7_takeGreatest_47 : decode cX7_takeGreatest 47 = .ok (.invokestatic 94, 3) := by decide +kernel
theorem dX7_takeGreatest_50 : decode cX7_takeGreatest 50 = .ok (.ifCond .le 26, 3) := by decide +kernel
theorem dX7_takeGreatest_53 : decode cX7_takeGreatest 53 = .ok (.aload_n 1, 1) := by decide +kernel
theorem dX7_takeGreatest_54 : decode cX7_takeGreatest 54 = .ok (.iload_n 3, 1) := by decide +kernel
theorem dX7_takeGreatest_55 : decode cX7_takeGreatest 55 = .ok (.aload_n 0, 1) := by decide +kernel
theorem dX7_takeGreatest_56 : decode cX7_takeGreatest 56 = .ok (.getfield 18, 3) := by decide +kernel
theorem dX7_takeGreatest_59 : decode cX7_takeGreatest 59 = .ok (.getfield 88, 3) := by decide +kernel
theorem dX7_takeGreatest_62 : decode cX7_takeGreatest 62 = .ok (.iload_n 3, 1) := by decide +kernel
theorem dX7_takeGreatest_63 : decode cX7_takeGreatest 63 = .ok (.laload, 1) := by decide +kernel
theorem dX7_takeGreatest_64 : decode cX7_takeGreatest 64 = .ok (.aload_n 0, 1) := by decide +kernel
theorem dX7_takeGreatest_65 : decode cX7_takeGreatest 65 = .ok (.getfield 18, 3) := by decide +kernel
theorem dX7_takeGreatest_68 : decode cX7_takeGreatest 68 = .ok (.getfield 91, 3) := by decide +kernel
theorem dX7_takeGreatest_71 : decode cX7_takeGreatest 71 = .ok (.iload_n 3, 1) := by decide +kernel
theorem dX7_takeGreatest_72 : decode cX7_takeGreatest 72 = .ok (.laload, 1) := by decide +kernel
theorem dX7_takeGreatest_73 : decode cX7_takeGreatest 73 = .ok (.invokevirtual 98, 3) := by decide +kernel
theorem dX7_takeGreatest_76 : decode cX7_takeGreatest 76 = .ok (.iinc 3 1, 3) := by decide +kernel
theorem dX7_takeGreatest_79 : decode cX7_takeGreatest 79 = .ok (.goto (-77), 3) := by decide +kernel
theorem dX7_takeGreatest_82 : decode cX7_takeGreatest 82 = .ok (.return_, 1) := by decide +kernel
theorem dX7_advance_0 : decode cX7_advance 0 = .ok (.aload_n 0, 1) := by decide +kernel
theorem dX7_advance_1 : decode cX7_advance 1 = .ok (.getfield 33, 3) := by decide +kernel
theorem dX7_advance_4 : decode cX7_advance 4 = .ok (.getfield 74, 3) := by decide +kernel
theorem dX7_advance_7 : decode cX7_advance 7 = .ok (.getfield 102, 3) := by decide +kernel
theorem dX7_advance_10 : decode cX7_advance 10 = .ok (.iconst 1, 1) := by decide +kernel
theorem dX7_advance_11 : decode cX7_advance 11 = .ok (.isub, 1) := by decide +kernel
theorem dX7_advance_12 : decode cX7_advance 12 = .ok (.istore_n 1, 1) := by decide +kernel
theorem dX7_advance_13 : decode cX7_advance 13 = .ok (.iload_n 1, 1) := by decide +kernel
theorem dX7_advance_14 : decode cX7_advance 14 = .ok (.ifCond .lt 59, 3) := by decide +kernel
theorem dX7_advance_17 : decode cX7_advance 17 = .ok (.aload_n 0, 1) := by decide +kernel
theorem dX7_advance_18 : decode cX7_advance 18 = .ok (.getfield 33, 3) := by decide +kernel
theorem dX7_advance_21 : decode cX7_advance 21 = .ok (.getfield 74, 3) := by decide +kernel
theorem dX7_advance_24 : decode cX7_advance 24 = .ok (.getfield 105, 3) := by decide +kernel
theorem dX7_advance_27 : decode cX7_advance 27 = .ok (.iload_n 1, 1) := by decide +kernel
theorem dX7_advance_28 : decode cX7_advance 28 = .ok (.iaload, 1) := by decide +kernel
theorem dX7_advance_29 : decode cX7_advance 29 = .ok (.istore_n 2, 1) := by decide +kernel
theorem dX7_advance_30 : decode cX7_advance 30 = .ok (.aload_n 0, 1) := by decide +kernel
theorem dX7_advance_31 : decode cX7_advance 31 = .ok (.getfield 9, 3) := by decide +kernel
theorem dX7_advance_34 : decode cX7_advance 34 = .ok (.iload_n 2, 1) := by decide +kernel
theorem dX7_advance_35 : decode cX7_advance 35 = .ok (.dup2, 1) := by decide +kernel
theorem dX7_advance_36 : decode cX7_advance 36 = .ok (.iaload, 1) := by decide +kernel
theorem dX7_advance_37 : decode cX7_advance 37 = .ok (.iconst 1, 1) := by decide +kernel
theorem dX7_advance_38 : decode cX7_advance 38 = .ok (.iadd, 1) := by decide +kernel
theorem dX7_advance_39 : decode cX7_advance 39 = .ok (.iastore, 1) := by decide +kernel
theorem dX7_advance_40 : decode cX7_advance 40 = .ok (.aload_n 0, 1) := by decide +kernel
theorem dX7_advance_41 : decode cX7_advance 41 = .ok (.getfield 9, 3) := by decide +kernel
theorem dX7_advance_44 : decode cX7_advance 44 = .ok (.iload_n 2, 1) := by decide +kernel
theorem dX7_advance_45 : decode cX7_advance 45 = .ok (.iaload, 1) := by decide +kernel
theorem dX7_advance_46 : decode cX7_advance 46 = .ok (.aload_n 0, 1) := by decide +kernel
theorem dX7_advance_47 : decode cX7_advance 47 = .ok (.getfield 29, 3) := by decide +kernel
theorem dX7_advance_50 : decode cX7_advance 50 = .ok (.getfield 108, 3) := by decide +kernel
theorem dX7_advance_53 : decode cX7_advance 53 = .ok (.iload_n 2, 1) := by decide +kernel
theorem dX7_advance_54 : decode cX7_advance 54 = .ok (.iaload, 1) := by decide +kernel
theorem dX7_advance_55 : decode cX7_advance 55 = .ok (.if_icmp .ge 5, 3) := by decide +kernel
theorem dX7_advance_58 : decode cX7_advance 58 = .ok (.iload_n 1, 1) := by decide +kernel
theorem dX7_advance_59 : decode cX7_advance 59 = .ok (.ireturn, 1) := by decide +kernel
theorem dX7_advance_60 : decode cX7_advance 60 = .ok (.aload_n 0, 1) := by decide +kernel
theorem dX7_advance_61 : decode cX7_advance 61 = .ok (.getfield 9, 3) := by decide +kernel
theorem dX7_advance_64 : decode cX7_advance 64 = .ok (.iload_n 2, 1) := by decide +kernel
theorem dX7_advance_65 : decode cX7_advance 65 = .ok (.iconst 0, 1) := by decide +kernel
theorem dX7_advance_66 : decode cX7_advance 66 = .ok (.iastore, 1) := by decide +kernel
theorem dX7_advance_67 : decode cX7_advance 67 = .ok (.iinc 1 (-1), 3) := by decide +kernel
theorem dX7_advance_70 : decode cX7_advance 70 = .ok (.goto (-57), 3) := by decide +kernel
theorem dX7_advance_73 : decode cX7_advance 73 = .ok (.iconst (-1), 1) := by decide +kernel
theorem dX7_advance_74 : decode cX7_advance 74 = .ok (.ireturn, 1) := by decide +kernel
theorem dX8_init_0 : decode cX8_init 0 = .ok (.aload_n 0, 1) := by decide +kernel
theorem dX8_init_1 : decode cX8_init 1 = .ok (.invokespecial 3, 3) := by decide +kernel
theorem dX8_init_4 : decode cX8_init 4 = .ok (.aload_n 0, 1) := by decide +kernel
theorem dX8_init_5 : decode cX8_init 5 = .ok (.bipush 7, 2) := by decide +kernel
theorem dX8_init_7 : decode cX8_init 7 = .ok (.newarray .int, 2) := by decide +kernel
theorem dX8_init_9 : decode cX8_init 9 = .ok (.putfield 9, 3) := by decide +kernel
theorem dX8_init_12 : decode cX8_init 12 = .ok (.aload_n 0, 1) := by decide +kernel
theorem dX8_init_13 : decode cX8_init 13 = .ok (.aload_n 1, 1) := by decide +kernel
theorem dX8_init_14 : decode cX8_init 14 = .ok (.putfield 15, 3) := by decide +kernel
theorem dX8_init_17 : decode cX8_init 17 = .ok (.aload_n 0, 1) := by decide +kernel
theorem dX8_init_18 : decode cX8_init 18 = .ok (.aload_n 2, 1) := by decide +kernel
theorem dX8_init_19 : decode cX8_init 19 = .ok (.putfield 19, 3) := by decide +kernel
theorem dX8_init_22 : decode cX8_init 22 = .ok (.aload_n 0, 1) := by decide +kernel
theorem dX8_init_23 : decode cX8_init 23 = .ok (.aload_n 3, 1) := by decide +kernel
theorem dX8_init_24 : decode cX8_init 24 = .ok (.putfield 23, 3) := by decide +kernel
theorem dX8_init_27 : decode cX8_init 27 = .ok (.return_, 1) := by decide +kernel
theorem dX8_tellBest_0 : decode cX8_tellBest 0 = .ok (.aload_n 0, 1) := by decide +kernel
theorem dX8_tellBest_1 : decode cX8_tellBest 1 = .ok (.getfield 23, 3) := by decide +kernel
theorem dX8_tellBest_4 : decode cX8_tellBest 4 = .ok (.iload_n 1, 1) := by decide +kernel
theorem dX8_tellBest_5 : decode cX8_tellBest 5 = .ok (.aload_n 2, 1) := by decide +kernel
theorem dX8_tellBest_6 : decode cX8_tellBest 6 = .ok (.iconst 1, 1) := by decide +kernel
theorem dX8_tellBest_7 : decode cX8_tellBest 7 = .ok (.iconst 1, 1) := by decide +kernel
theorem dX8_tellBest_8 : decode cX8_tellBest 8 = .ok (.invokevirtual 27, 3) := by decide +kernel
theorem dX8_tellBest_11 : decode cX8_tellBest 11 = .ok (.iload_n 1, 1) := by decide +kernel
theorem dX8_tellBest_12 : decode cX8_tellBest 12 = .ok (.bipush 114, 2) := by decide +kernel
theorem dX8_tellBest_14 : decode cX8_tellBest 14 = .ok (.if_icmp .ne 7, 3) := by decide +kernel
theorem dX8_tellBest_17 : decode cX8_tellBest 17 = .ok (.aload_n 0, 1) := by decide +kernel
theorem dX8_tellBest_18 : decode cX8_tellBest 18 = .ok (.invokevirtual 33, 3) := by decide +kernel
theorem dX8_tellBest_21 : decode cX8_tellBest 21 = .ok (.iconst 0, 1) := by decide +kernel
theorem dX8_tellBest_22 : decode cX8_tellBest 22 = .ok (.istore_n 3, 1) := by decide +kernel
theorem dX8_tellBest_23 : decode cX8_tellBest 23 = .ok (.iconst 0, 1) := by decide +kernel
theorem dX8_tellBest_24 : decode cX8_tellBest 24 = .ok (.istore 4, 2) := by decide +kernel
theorem dX8_tellBest_26 : decode cX8_tellBest 26 = .ok (.iload 4, 2) := by decide +kernel
theorem dX8_tellBest_28 : decode cX8_tellBest 28 = .ok (.aload_n 0, 1) := by decide +kernel
theorem dX8_tellBest_29 : decode cX8_tellBest 29 = .ok (.getfield 15, 3) := by decide +kernel
theorem dX8_tellBest_32 : decode cX8_tellBest 32 = .ok (.getfield 36, 3) := by decide +kernel
theorem dX8_tellBest_35 : decode cX8_tellBest 35 = .ok (.if_icmp .ge 107, 3) := by decide +kernel
theorem dX8_tellBest_38 : decode cX8_tellBest 38 = .ok (.iload_n 1, 1) := by decide +kernel
theorem dX8_tellBest_39 : decode cX8_tellBest 39 = .ok (.bipush 114, 2) := by decide +kernel
theorem dX8_tellBest_41 : decode cX8_tellBest 41 = .ok (.if_icmp .ne 44, 3) := by decide +kernel
theorem dX8_tellBest_44 : decode cX8_tellBest 44 = .ok (.aload_n 0, 1) := by decide +kernel
theorem dX8_tellBest_45 : decode cX8_tellBest 45 = .ok (.getfield 15, 3) := by decide +kernel
theorem dX8_tellBest_48 : decode cX8_tellBest 48 = .ok (.getfield 42, 3) := by decide +kernel
theorem dX8_tellBest_51 : decode cX8_tellBest 51 = .ok (.iload 4, 2) := by decide +kernel
theorem dX8_tellBest_53 : decode cX8_tellBest 53 = .ok (.baload, 1) := by decide +kernel
theorem dX8_tellBest_54 : decode cX8_tellBest 54 = .ok (.ifCond .eq 31, 3) := by decide +kernel
theorem dX8_tellBest_57 : decode cX8_tellBest 57 = .ok (.aload_n 0, 1) := by decide +kernel
theorem dX8_tellBest_58 : decode cX8_tellBest 58 = .ok (.getfield 15, 3) := by decide +kernel
theorem dX8_tellBest_61 : decode cX8_tellBest 61 = .ok (.iload 4, 2) := by decide +kernel
theorem dX8_tellBest_63 : decode cX8_tellBest 63 = .ok (.invokevirtual 46, 3) := by decide +kernel
theorem dX8_tellBest_66 : decode cX8_tellBest 66 = .ok (.ifCond .ne 19, 3) := by decide +kernel
theorem dX8_tellBest_69 : decode cX8_tellBest 69 = .ok (.aload_n 0, 1) := by decide +kernel
theorem dX8_tellBest_70 : decode cX8_tellBest 70 = .ok (.getfield 19, 3) := by decide +kernel
theorem dX8_tellBest_73 : decode cX8_tellBest 73 = .ok (.iload 4, 2) := by decide +kernel
theorem dX8_tellBest_75 : decode cX8_tellBest 75 = .ok (.invokevirtual 50, 3) := by decide +kernel
theorem dX8_tellBest_78 : decode cX8_tellBest 78 = .ok (.ifCond .ne 7, 3) := by decide +kernel
theorem dX8_tellBest_81 : decode cX8_tellBest 81 = .ok (.iconst 1, 1) := by decide +kernel
theorem dX8_tellBest_82 : decode cX8_tellBest 82 = .ok (.goto 4, 3) := by decide +kernel
theorem dX8_tellBest_85 : decode cX8_tellBest 85 = .ok (.iconst 0, 1) := by decide +kernel
theorem dX8_tellBest_86 : decode cX8_tellBest 86 = .ok (.istore 5, 2) := by decide +kernel
theorem dX8_tellBest_88 : decode cX8_tellBest 88 = .ok (.aload_n 0, 1) := by decide +kernel
theorem dX8_tellBest_89 : decode cX8_tellBest 89 = .ok (.iload_n 1, 1) := by decide +kernel
theorem dX8_tellBest_90 : decode cX8_tellBest 90 = .ok (.iload 4, 2) := by decide +kernel
theorem dX8_tellBest_92 : decode cX8_tellBest 92 = .ok (.iload 5, 2) := by decide +kernel
theorem dX8_tellBest_94 : decode cX8_tellBest 94 = .ok (.ifCond .eq 12, 3) := by decide +kernel
theorem dX8_tellBest_97 : decode cX8_tellBest 97 = .ok (.aload_n 0, 1) := by decide +kernel
theorem dX8_tellBest_98 : decode cX8_tellBest 98 = .ok (.iload 4, 2) := by decide +kernel
theorem dX8_tellBest_100 : decode cX8_tellBest 100 = .ok (.invokevirtual 55, 3) := by decide +kernel
theorem dX8_tellBest_103 : decode cX8_tellBest 103 = .ok (.goto 10, 3) := by decide +kernel
theorem dX8_tellBest_106 : decode cX8_tellBest 106 = .ok (.aload_n 0, 1) := by decide +kernel
theorem dX8_tellBest_107 : decode cX8_tellBest 107 = .ok (.getfield 15, 3) := by decide +kernel
theorem dX8_tellBest_110 : decode cX8_tellBest 110 = .ok (.invokevirtual 59, 3) := by decide +kernel
theorem dX8_tellBest_113 : decode cX8_tellBest 113 = .ok (.invokevirtual 63, 3) := by decide +kernel
theorem dX8_tellBest_116 : decode cX8_tellBest 116 = .ok (.istore 6, 2) := by decide +kernel
theorem dX8_tellBest_118 : decode cX8_tellBest 118 = .ok (.iload 6, 2) := by decide +kernel
theorem dX8_tellBest_120 : decode cX8_tellBest 120 = .ok (.aload_n 2, 1) := by decide +kernel
theorem dX8_tellBest_121 : decode cX8_tellBest 121 = .ok (.iload 4, 2) := by decide +kernel
theorem dX8_tellBest_123 : decode cX8_tellBest 123 = .ok (.iaload, 1) := by decide +kernel
theorem dX8_tellBest_124 : decode cX8_tellBest 124 = .ok (.if_icmp .eq 6, 3) := by decide +kernel
theorem dX8_tellBest_127 : decode cX8_tellBest 127 = .ok (.iinc 3 1, 3) := by decide +kernel
theorem dX8_tellBest_130 : decode cX8_tellBest 130 = .ok (.aload_n 2, 1) := by decide +kernel
theorem dX8_tellBest_131 : decode cX8_tellBest 131 = .ok (.iload 4, 2) := by decide +kernel
theorem dX8_tellBest_133 : decode cX8_tellBest 133 = .ok (.iload 6, 2) := by decide +kernel
theorem dX8_tellBest_135 : decode cX8_tellBest 135 = .ok (.iastore, 1) := by decide +kernel
theorem dX8_tellBest_136 : decode cX8_tellBest 136 = .ok (.iinc 4 1, 3) := by decide +kernel
theorem dX8_tellBest_139 : decode cX8_tellBest 139 = .ok (.goto (-113), 3) := by decide +kernel
theorem dX8_tellBest_142 : decode cX8_tellBest 142 = .ok (.iload_n 3, 1) := by decide +kernel
theorem dX8_tellBest_143 : decode cX8_tellBest 143 = .ok (.ireturn, 1) := by decide +kernel
theorem dX8_lowestGood_0 : decode cX8_lowestGood 0 = .ok (.iconst 0, 1) := by decide +kernel
theorem dX8_lowestGood_1 : decode cX8_lowestGood 1 = .ok (.istore 4, 2) := by decide +kernel
theorem dX8_lowestGood_3 : decode cX8_lowestGood 3 = .ok (.iload 4, 2) := by decide +kernel
theorem dX8_lowestGood_5 : decode cX8_lowestGood 5 = .ok (.aload_n 0, 1) := by decide +kernel
theorem dX8_lowestGood_6 : decode cX8_lowestGood 6 = .ok (.getfield 15, 3) := by decide +kernel
theorem dX8_lowestGood_9 : decode cX8_lowestGood 9 = .ok (.getfield 67, 3) := by decide +kernel
theorem dX8_lowestGood_12 : decode cX8_lowestGood 12 = .ok (.iload_n 2, 1) := by decide +kernel
theorem dX8_lowestGood_13 : decode cX8_lowestGood 13 = .ok (.iaload, 1) := by decide +kernel
theorem dX8_lowestGood_14 : decode cX8_lowestGood 14 = .ok (.if_icmp .ge 49, 3) := by decide +kernel
theorem dX8_lowestGood_17 : decode cX8_lowestGood 17 = .ok (.iload_n 2, 1) := by decide +kernel
theorem dX8_lowestGood_18 : decode cX8_lowestGood 18 = .ok (.iload 4, 2) := by decide +kernel
theorem dX8_lowestGood_20 : decode cX8_lowestGood 20 = .ok (.invokestatic 70, 3) := by decide +kernel
theorem dX8_lowestGood_23 : decode cX8_lowestGood 23 = .ok (.istore 5, 2) := by decide +kernel
theorem dX8_lowestGood_25 : decode cX8_lowestGood 25 = .ok (.aload_n 0, 1) := by decide +kernel
theorem dX8_lowestGood_26 : decode cX8_lowestGood 26 = .ok (.getfield 19, 3) := by decide +kernel
theorem dX8_lowestGood_29 : decode cX8_lowestGood 29 = .ok (.iload_n 1, 1) := by decide +kernel
theorem dX8_lowestGood_30 : decode cX8_lowestGood 30 = .ok (.iload_n 2, 1) := by decide +kernel
theorem dX8_lowestGood_31 : decode cX8_lowestGood 31 = .ok (.iload 5, 2) := by decide +kernel
theorem dX8_lowestGood_33 : decode cX8_lowestGood 33 = .ok (.invokevirtual 74, 3) := by decide +kernel
theorem dX8_lowestGood_36 : decode cX8_lowestGood 36 = .ok (.ifCond .eq 21, 3) := by decide +kernel
theorem dX8_lowestGood_39 : decode cX8_lowestGood 39 = .ok (.aload_n 0, 1) := by decide +kernel
theorem dX8_lowestGood_40 : decode cX8_lowestGood 40 = .ok (.getfield 15, 3) := by decide +kernel
theorem dX8_lowestGood_43 : decode cX8_lowestGood 43 = .ok (.getfield 78, 3) := by decide +kernel
theorem dX8_lowestGood_46 : decode cX8_lowestGood 46 = .ok (.iload 5, 2) := by decide +kernel
theorem dX8_lowestGood_48 : decode cX8_lowestGood 48 = .ok (.iaload, 1) := by decide +kernel
theorem dX8_lowestGood_49 : decode cX8_lowestGood 49 = .ok (.iload_n 3, 1) := by decide +kernel
theorem dX8_lowestGood_50 : decode cX8_lowestGood 50 = .ok (.iand, 1) := by decide +kernel
theorem dX8_lowestGood_51 : decode cX8_lowestGood 51 = .ok (.ifCond .eq 6, 3) := by decide +kernel
theorem dX8_lowestGood_54 : decode cX8_lowestGood 54 = .ok (.iload 4, 2) := by decide +kernel
theorem dX8_lowestGood_56 : decode cX8_lowestGood 56 = .ok (.ireturn, 1) := by decide +kernel
theorem dX8_lowestGood_57 : decode cX8_lowestGood 57 = .ok (.iinc 4 1, 3) := by decide +kernel
theorem dX8_lowestGood_60 : decode cX8_lowestGood 60 = .ok (.goto (-57), 3) := by decide +kernel
theorem dX8_lowestGood_63 : decode cX8_lowestGood 63 = .ok (.iconst 0, 1) := by decide +kernel
theorem dX8_lowestGood_64 : decode cX8_lowestGood 64 = .ok (.ireturn, 1) := by decide +kernel
theorem dX8_lowerThan_0 : decode cX8_lowerThan 0 = .ok (.iconst 0, 1) := by decide +kernel
theorem dX8_lowerThan_1 : decode cX8_lowerThan 1 = .ok (.istore_n 2, 1) := by decide +kernel
theorem dX8_lowerThan_2 : decode cX8_lowerThan 2 = .ok (.iconst 0, 1) := by decide +kernel
theorem dX8_lowerThan_3 : decode cX8_lowerThan 3 = .ok (.istore_n 3, 1) := by decide +kernel
theorem dX8_lowerThan_4 : decode cX8_lowerThan 4 = .ok (.iload_n 3, 1) := by decide +kernel
theorem dX8_lowerThan_5 : decode cX8_lowerThan 5 = .ok (.aload_n 0, 1) := by decide +kernel
theorem dX8_lowerThan_6 : decode cX8_lowerThan 6 = .ok (.getfield 15, 3) := by decide +kernel
theorem dX8_lowerThan_9 : decode cX8_lowerThan 9 = .ok (.getfield 36, 3) := by decide +kernel
theorem dX8_lowerThan_12 : decode cX8_lowerThan 12 = .ok (.if_icmp .ge 39, 3) := by decide +kernel
theorem dX8_lowerThan_15 : decode cX8_lowerThan 15 = .ok (.aload_n 0, 1) := by decide +kernel
theorem dX8_lowerThan_16 : decode cX8_lowerThan 16 = .ok (.getfield 9, 3) := by decide +kernel
theorem dX8_lowerThan_19 : decode cX8_lowerThan 19 = .ok (.iload_n 3, 1) := by decide +kernel
theorem dX8_lowerThan_20 : decode cX8_lowerThan 20 = .ok (.iaload, 1) := by decide +kernel
theorem dX8_lowerThan_21 : decode cX8_lowerThan 21 = .ok (.ifCond .lt 24, 3) := by decide +kernel
theorem dX8_lowerThan_24 : decode cX8_lowerThan 24 = .ok (.aload_n 0, 1) := by decide +kernel
theorem dX8_lowerThan_25 : decode cX8_lowerThan 25 = .ok (.getfield 9, 3) := by decide +kernel
theorem dX8_lowerThan_28 : decode cX8_lowerThan 28 = .ok (.iload_n 3, 1) := by decide +kernel
theorem dX8_lowerThan_29 : decode cX8_lowerThan 29 = .ok (.iaload, 1) := by decide +kernel
theorem dX8_lowerThan_30 : decode cX8_lowerThan 30 = .ok (.aload_n 0, 1) := by decide +kernel
theorem dX8_lowerThan_31 : decode cX8_lowerThan 31 = .ok (.getfield 9, 3) := by decide +kernel
theorem dX8_lowerThan_34 : decode cX8_lowerThan 34 = .ok (.iload_n 1, 1) := by decide +kernel
theorem dX8_lowerThan_35 : decode cX8_lowerThan 35 = .ok (.iaload, 1) := by decide +kernel
theorem dX8_lowerThan_36 : decode cX8_lowerThan 36 = .ok (.if_icmp .ge 9, 3) := by decide +kernel
theorem dX8_lowerThan_39 : decode cX8_lowerThan 39 = .ok (.iload_n 2, 1) := by decide +kernel
theorem dX8_lowerThan_40 : decode cX8_lowerThan 40 = .ok (.iconst 1, 1) := by decide +kernel
theorem dX8_lowerThan_41 : decode cX8_lowerThan 41 = .ok (.iload_n 3, 1) := by decide +kernel
theorem dX8_lowerThan_42 : decode cX8_lowerThan 42 = .ok (.ishl, 1) := by decide +kernel
theorem dX8_lowerThan_43 : decode cX8_lowerThan 43 = .ok (.ior, 1) := by decide +kernel
theorem dX8_lowerThan_44 : decode cX8_lowerThan 44 = .ok (.istore_n 2, 1) := by decide +kernel
theorem dX8_lowerThan_45 : decode cX8_lowerThan 45 = .ok (.iinc 3 1, 3) := by decide +kernel
theorem dX8_lowerThan_48 : decode cX8_lowerThan 48 = .ok (.goto (-44), 3) := by decide +kernel
theorem dX8_lowerThan_51 : decode cX8_lowerThan 51 = .ok (.iload_n 2, 1) := by decide +kernel
theorem dX8_lowerThan_52 : decode cX8_lowerThan 52 = .ok (.ireturn, 1) := by decide +kernel
theorem dX8_rankStates_0 : decode cX8_rankStates 0 = .ok (.iconst 0, 1) := by decide +kernel
theorem dX8_rankStates_1 : decode cX8_rankStates 1 = .ok (.istore_n 1, 1) := by decide +kernel
theorem dX8_rankStates_2 : decode cX8_rankStates 2 = .ok (.iload_n 1, 1) := by decide +kernel
theorem dX8_rankStates_3 : decode cX8_rankStates 3 = .ok (.aload_n 0, 1) := by decide +kernel
theorem dX8_rankStates_4 : decode cX8_rankStates 4 = .ok (.getfield 15, 3) := by decide +kernel
theorem dX8_rankStates_7 : decode cX8_rankStates 7 = .ok (.getfield 36, 3) := by decide +kernel
theorem dX8_rankStates_10 : decode cX8_rankStates 10 = .ok (.if_icmp .ge 31, 3) := by decide +kernel
theorem dX8_rankStates_13 : decode cX8_rankStates 13 = .ok (.aload_n 0, 1) := by decide +kernel
theorem dX8_rankStates_14 : decode cX8_rankStates 14 = .ok (.getfield 9, 3) := by decide +kernel
theorem dX8_rankStates_17 : decode cX8_rankStates 17 = .ok (.iload_n 1, 1) := by decide +kernel
theorem dX8_rankStates_18 : decode cX8_rankStates 18 = .ok (.aload_n 0, 1) := by decide +kernel
theorem dX8_rankStates_19 : decode cX8_rankStates 19 = .ok (.getfield 15, 3) := by decide +kernel
theorem dX8_rankStates_22 : decode cX8_rankStates 22 = .ok (.iload_n 1, 1) := by decide +kernel
theorem dX8_rankStates_23 : decode cX8_rankStates 23 = .ok (.invokevirtual 46, 3) := by decide +kernel
theorem dX8_rankStates_26 : decode cX8_rankStates 26 = .ok (.ifCond .eq 7, 3) := by decide +kernel
theorem dX8_rankStates_29 : decode cX8_rankStates 29 = .ok (.iconst 0, 1) := by decide +kernel
theorem dX8_rankStates_30 : decode cX8_rankStates 30 = .ok (.goto 4, 3) := by decide +kernel
theorem dX8_rankStates_33 : decode cX8_rankStates 33 = .ok (.iconst (-1), 1) := by decide +kernel
theorem dX8_rankStates_34 : decode cX8_rankStates 34 = .ok (.iastore, 1) := by decide +kernel
theorem dX8_rankStates_35 : decode cX8_rankStates 35 = .ok (.iinc 1 1, 3) := by decide +kernel
theorem dX8_rankStates_38 : decode cX8_rankStates 38 = .ok (.goto (-36), 3) := by decide +kernel
theorem dX8_rankStates_41 : decode cX8_rankStates 41 = .ok (.aload_n 0, 1) := by decide +kernel
theorem dX8_rankStates_42 : decode cX8_rankStates 42 = .ok (.getfield 15, 3) := by decide +kernel
theorem dX8_rankStates_45 : decode cX8_rankStates 45 = .ok (.getfield 81, 3) := by decide +kernel
theorem dX8_rankStates_48 : decode cX8_rankStates 48 = .ok (.istore_n 1, 1) := by decide +kernel
theorem dX8_rankStates_49 : decode cX8_rankStates 49 = .ok (.iconst 1, 1) := by decide +kernel
theorem dX8_rankStates_50 : decode cX8_rankStates 50 = .ok (.istore_n 2, 1) := by decide +kernel
theorem dX8_rankStates_51 : decode cX8_rankStates 51 = .ok (.iload_n 2, 1) := by decide +kernel
theorem dX8_rankStates_52 : decode cX8_rankStates 52 = .ok (.aload_n 0, 1) := by decide +kernel
theorem dX8_rankStates_53 : decode cX8_rankStates 53 = .ok (.getfield 15, 3) := by decide +kernel
theorem dX8_rankStates_56 : decode cX8_rankStates 56 = .ok (.getfield 36, 3) := by decide +kernel
theorem dX8_rankStates_59 : decode cX8_rankStates 59 = .ok (.if_icmp .gt 79, 3) := by decide +kernel
theorem dX8_rankStates_62 : decode cX8_rankStates 62 = .ok (.iload_n 1, 1) := by decide +kernel
theorem dX8_rankStates_63 : decode cX8_rankStates 63 = .ok (.istore_n 3, 1) := by decide +kernel
theorem dX8_rankStates_64 : decode cX8_rankStates 64 = .ok (.iconst 0, 1) := by decide +kernel
theorem dX8_rankStates_65 : decode cX8_rankStates 65 = .ok (.istore 4, 2) := by decide +kernel
theorem dX8_rankStates_67 : decode cX8_rankStates 67 = .ok (.iload 4, 2) := by decide +kernel
theorem dX8_rankStates_69 : decode cX8_rankStates 69 = .ok (.aload_n 0, 1) := by decide +kernel
theorem dX8_rankStates_70 : decode cX8_rankStates 70 = .ok (.getfield 15, 3) := by decide +kernel
theorem dX8_rankStates_73 : decode cX8_rankStates 73 = .ok (.getfield 36, 3) := by decide +kernel
theorem dX8_rankStates_76 : decode cX8_rankStates 76 = .ok (.if_icmp .ge 56, 3) := by decide +kernel
theorem dX8_rankStates_79 : decode cX8_rankStates 79 = .ok (.aload_n 0, 1) := by decide +kernel
theorem dX8_rankStates_80 : decode cX8_rankStates 80 = .ok (.getfield 9, 3) := by decide +kernel
theorem dX8_rankStates_83 : decode cX8_rankStates 83 = .ok (.iload 4, 2) := by decide +kernel
theorem dX8_rankStates_85 : decode cX8_rankStates 85 = .ok (.iaload, 1) := by decide +kernel
theorem dX8_rankStates_86 : decode cX8_rankStates 86 = .ok (.ifCond .ge 40, 3) := by decide +kernel
theorem dX8_rankStates_89 : decode cX8_rankStates 89 = .ok (.aload_n 0, 1) := by decide +kernel
theorem dX8_rankStates_90 : decode cX8_rankStates 90 = .ok (.getfield 19, 3) := by decide +kernel
theorem dX8_rankStates_93 : decode cX8_rankStates 93 = .ok (.iload 4, 2) := by decide +kernel
theorem dX8_rankStates_95 : decode cX8_rankStates 95 = .ok (.invokevirtual 50, 3) := by decide +kernel
theorem dX8_rankStates_98 : decode cX8_rankStates 98 = .ok (.ifCond .ne 28, 3) := by decide +kernel
theorem dX8_rankStates_101 : decode cX8_rankStates 101 = .ok (.aload_n 0, 1) := by decide +kernel
theorem dX8_rankStates_102 : decode cX8_rankStates 102 = .ok (.iload 4, 2) := by decide +kernel
theorem dX8_rankStates_104 : decode cX8_rankStates 104 = .ok (.iload_n 3, 1) := by decide +kernel
theorem dX8_rankStates_105 : decode cX8_rankStates 105 = .ok (.invokevirtual 84, 3) := by decide +kernel
theorem dX8_rankStates_108 : decode cX8_rankStates 108 = .ok (.ifCond .eq 18, 3) := by decide +kernel
theorem dX8_rankStates_111 : decode cX8_rankStates 111 = .ok (.aload_n 0, 1) := by decide +kernel
theorem dX8_rankStates_112 : decode cX8_rankStates 112 = .ok (.getfield 9, 3) := by decide +kernel
theorem dX8_rankStates_115 : decode cX8_rankStates 115 = .ok (.iload 4, 2) := by decide +kernel
theorem dX8_rankStates_117 : decode cX8_rankStates 117 = .ok (.iload_n 2, 1) := by decide +kernel
theorem dX8_rankStates_118 : decode cX8_rankStates 118 = .ok (.iastore, 1) := by decide +kernel
theorem dX8_rankStates_119 : decode cX8_rankStates 119 = .ok (.iload_n 1, 1) := by decide +kernel
theorem dX8_rankStates_120 : decode cX8_rankStates 120 = .ok (.iconst 1, 1) := by decide +kernel
theorem dX8_rankStates_121 : decode cX8_rankStates 121 = .ok (.iload 4, 2) := by decide +kernel
theorem dX8_rankStates_123 : decode cX8_rankStates 123 = .ok (.ishl, 1) := by decide +kernel
theorem dX8_rankStates_124 : decode cX8_rankStates 124 = .ok (.ior, 1) := by decide +kernel
theorem dX8_rankStates_125 : decode cX8_rankStates 125 = .ok (.istore_n 1, 1) := by decide +kernel
theorem dX8_rankStates_126 : decode cX8_rankStates 126 = .ok (.iinc 4 1, 3) := by decide +kernel
theorem dX8_rankStates_129 : decode cX8_rankStates 129 = .ok (.goto (-62), 3) := by decide +kernel
theorem dX8_rankStates_132 : decode cX8_rankStates 132 = .ok (.iinc 2 1, 3) := by decide +kernel
theorem dX8_rankStates_135 : decode cX8_rankStates 135 = .ok (.goto (-84), 3) := by decide +kernel
theorem dX8_rankStates_138 : decode cX8_rankStates 138 = .ok (.return_, 1) := by decide +kernel
theorem dX8_isDrawn_0 : decode cX8_isDrawn 0 = .ok (.aload_n 0, 1) := by decide +kernel
theorem dX8_isDrawn_1 : decode cX8_isDrawn 1 = .ok (.getfield 15, 3) := by decide +kernel
theorem dX8_isDrawn_4 : decode cX8_isDrawn 4 = .ok (.getfield 42, 3) := by decide +kernel
theorem dX8_isDrawn_7 : decode cX8_isDrawn 7 = .ok (.iload_n 1, 1) := by decide +kernel
theorem dX8_isDrawn_8 : decode cX8_isDrawn 8 = .ok (.baload, 1) := by decide +kernel
theorem dX8_isDrawn_9 : decode cX8_isDrawn 9 = .ok (.istore_n 3, 1) := by decide +kernel
theorem dX8_isDrawn_10 : decode cX8_isDrawn 10 = .ok (.iconst 0, 1) := by decide +kernel
theorem dX8_isDrawn_11 : decode cX8_isDrawn 11 = .ok (.istore 4, 2) := by decide +kernel
theorem dX8_isDrawn_13 : decode cX8_isDrawn 13 = .ok (.iload 4, 2) := by decide +kernel
theorem dX8_isDrawn_15 : decode cX8_isDrawn 15 = .ok (.aload_n 0, 1) := by decide +kernel
theorem dX8_isDrawn_16 : decode cX8_isDrawn 16 = .ok (.getfield 15, 3) := by decide +kernel
theorem dX8_isDrawn_19 : decode cX8_isDrawn 19 = .ok (.getfield 67, 3) := by decide +kernel
theorem dX8_isDrawn_22 : decode cX8_isDrawn 22 = .ok (.iload_n 1, 1) := by decide +kernel
theorem dX8_isDrawn_23 : decode cX8_isDrawn 23 = .ok (.iaload, 1) := by decide +kernel
theorem dX8_isDrawn_24 : decode cX8_isDrawn 24 = .ok (.if_icmp .ge 58, 3) := by decide +kernel
theorem dX8_isDrawn_27 : decode cX8_isDrawn 27 = .ok (.iload_n 1, 1) := by decide +kernel
theorem dX8_isDrawn_28 : decode cX8_isDrawn 28 = .ok (.iload 4, 2) := by decide +kernel
theorem dX8_isDrawn_30 : decode cX8_isDrawn 30 = .ok (.invokestatic 70, 3) := by decide +kernel
theorem dX8_isDrawn_33 : decode cX8_isDrawn 33 = .ok (.istore 5, 2) := by decide +kernel
theorem dX8_isDrawn_35 : decode cX8_isDrawn 35 = .ok (.aload_n 0, 1) := by decide +kernel
theorem dX8_isDrawn_36 : decode cX8_isDrawn 36 = .ok (.getfield 19, 3) := by decide +kernel
theorem dX8_isDrawn_39 : decode cX8_isDrawn 39 = .ok (.bipush 114, 2) := by decide +kernel
theorem dX8_isDrawn_41 : decode cX8_isDrawn 41 = .ok (.iload_n 1, 1) := by decide +kernel
theorem dX8_isDrawn_42 : decode cX8_isDrawn 42 = .ok (.iload 5, 2) := by decide +kernel
theorem dX8_isDrawn_44 : decode cX8_isDrawn 44 = .ok (.invokevirtual 74, 3) := by decide +kernel
theorem dX8_isDrawn_47 : decode cX8_isDrawn 47 = .ok (.ifCond .eq 29, 3) := by decide +kernel
theorem dX8_isDrawn_50 : decode cX8_isDrawn 50 = .ok (.aload_n 0, 1) := by decide +kernel
theorem dX8_isDrawn_51 : decode cX8_isDrawn 51 = .ok (.getfield 15, 3) := by decide +kernel
theorem dX8_isDrawn_54 : decode cX8_isDrawn 54 = .ok (.getfield 78, 3) := by decide +kernel
theorem dX8_isDrawn_57 : decode cX8_isDrawn 57 = .ok (.iload 5, 2) := by decide +kernel
theorem dX8_isDrawn_59 : decode cX8_isDrawn 59 = .ok (.iaload, 1) := by decide +kernel
theorem dX8_isDrawn_60 : decode cX8_isDrawn 60 = .ok (.iload_n 2, 1) := by decide +kernel
theorem dX8_isDrawn_61 : decode cX8_isDrawn 61 = .ok (.iand, 1) := by decide +kernel
theorem dX8_isDrawn_62 : decode cX8_isDrawn 62 = .ok (.ifCond .eq 7, 3) := by decide +kernel
theorem dX8_isDrawn_65 : decode cX8_isDrawn 65 = .ok (.iconst 1, 1) := by decide +kernel
theorem dX8_isDrawn_66 : decode cX8_isDrawn 66 = .ok (.goto 4, 3) := by decide +kernel
theorem dX8_isDrawn_69 : decode cX8_isDrawn 69 = .ok (.iconst 0, 1) := by decide +kernel
theorem dX8_isDrawn_70 : decode cX8_isDrawn 70 = .ok (.iload_n 3, 1) := by decide +kernel
theorem dX8_isDrawn_71 : decode cX8_isDrawn 71 = .ok (.if_icmp .ne 5, 3) := by decide +kernel
theorem dX8_isDrawn_74 : decode cX8_isDrawn 74 = .ok (.iload_n 3, 1) := by decide +kernel
theorem dX8_isDrawn_75 : decode cX8_isDrawn 75 = .ok (.ireturn, 1) := by decide +kernel
theorem dX8_isDrawn_76 : decode cX8_isDrawn 76 = .ok (.iinc 4 1, 3) := by decide +kernel
theorem dX8_isDrawn_79 : decode cX8_isDrawn 79 = .ok (.goto (-66), 3) := by decide +kernel
theorem dX8_isDrawn_82 : decode cX8_isDrawn 82 = .ok (.iload_n 3, 1) := by decide +kernel
theorem dX8_isDrawn_83 : decode cX8_isDrawn 83 = .ok (.ifCond .ne 7, 3) := by decide +kernel
theorem dX8_isDrawn_86 : decode cX8_isDrawn 86 = .ok (.iconst 1, 1) := by decide +kernel
theorem dX8_isDrawn_87 : decode cX8_isDrawn 87 = .ok (.goto 4, 3) := by decide +kernel
theorem dX8_isDrawn_90 : decode cX8_isDrawn 90 = .ok (.iconst 0, 1) := by decide +kernel
theorem dX8_isDrawn_91 : decode cX8_isDrawn 91 = .ok (.ireturn, 1) := by decide +kernel
theorem dX9_init_0 : decode cX9_init 0 = .ok (.aload_n 0, 1) := by decide +kernel
theorem dX9_init_1 : decode cX9_init 1 = .ok (.invokespecial 3, 3) := by decide +kernel
theorem dX9_init_4 : decode cX9_init 4 = .ok (.aload_n 0, 1) := by decide +kernel
theorem dX9_init_5 : decode cX9_init 5 = .ok (.new 9, 3) := by decide +kernel
theorem dX9_init_8 : decode cX9_init 8 = .ok (.dup, 1) := by decide +kernel
theorem dX9_init_9 : decode cX9_init 9 = .ok (.invokespecial 11, 3) := by decide +kernel
theorem dX9_init_12 : decode cX9_init 12 = .ok (.putfield 12, 3) := by decide +kernel
theorem dX9_init_15 : decode cX9_init 15 = .ok (.aload_n 0, 1) := by decide +kernel
theorem dX9_init_16 : decode cX9_init 16 = .ok (.bipush 7, 2) := by decide +kernel
theorem dX9_init_18 : decode cX9_init 18 = .ok (.newarray .int, 2) := by decide +kernel
theorem dX9_init_20 : decode cX9_init 20 = .ok (.putfield 18, 3) := by decide +kernel
theorem dX9_init_23 : decode cX9_init 23 = .ok (.aload_n 0, 1) := by decide +kernel
theorem dX9_init_24 : decode cX9_init 24 = .ok (.aload_n 1, 1) := by decide +kernel
theorem dX9_init_25 : decode cX9_init 25 = .ok (.putfield 22, 3) := by decide +kernel
theorem dX9_init_28 : decode cX9_init 28 = .ok (.return_, 1) := by decide +kernel
theorem dX9_follow_0 : decode cX9_follow 0 = .ok (.iconst 0, 1) := by decide +kernel
theorem dX9_follow_1 : decode cX9_follow 1 = .ok (.istore_n 2, 1) := by decide +kernel
theorem dX9_follow_2 : decode cX9_follow 2 = .ok (.iload_n 2, 1) := by decide +kernel
theorem dX9_follow_3 : decode cX9_follow 3 = .ok (.aload_n 0, 1) := by decide +kernel
theorem dX9_follow_4 : decode cX9_follow 4 = .ok (.getfield 22, 3) := by decide +kernel
theorem dX9_follow_7 : decode cX9_follow 7 = .ok (.getfield 26, 3) := by decide +kernel
theorem dX9_follow_10 : decode cX9_follow 10 = .ok (.if_icmp .ge 47, 3) := by decide +kernel
theorem dX9_follow_13 : decode cX9_follow 13 = .ok (.aload_n 0, 1) := by decide +kernel
theorem dX9_follow_14 : decode cX9_follow 14 = .ok (.getfield 18, 3) := by decide +kernel
theorem dX9_follow_17 : decode cX9_follow 17 = .ok (.iload_n 2, 1) := by decide +kernel
theorem dX9_follow_18 : decode cX9_follow 18 = .ok (.aload_n 0, 1) := by decide +kernel
theorem dX9_follow_19 : decode cX9_follow 19 = .ok (.getfield 22, 3) := by decide +kernel
theorem dX9_follow_22 : decode cX9_follow 22 = .ok (.iload_n 2, 1) := by decide +kernel
theorem dX9_follow_23 : decode cX9_follow 23 = .ok (.invokevirtual 32, 3) := by decide +kernel
theorem dX9_follow_26 : decode cX9_follow 26 = .ok (.ifCond .eq 7, 3) := by decide +kernel
theorem dX9_follow_29 : decode cX9_follow 29 = .ok (.iconst 1, 1) := by decide +kernel
theorem dX9_follow_30 : decode cX9_follow 30 = .ok (.goto 4, 3) := by decide +kernel
theorem dX9_follow_33 : decode cX9_follow 33 = .ok (.iconst 0, 1) := by decide +kernel
theorem dX9_follow_34 : decode cX9_follow 34 = .ok (.iastore, 1) := by decide +kernel
theorem dX9_follow_35 : decode cX9_follow 35 = .ok (.aload_n 0, 1) := by decide +kernel
theorem dX9_follow_36 : decode cX9_follow 36 = .ok (.getfield 12, 3) := by decide +kernel
theorem dX9_follow_39 : decode cX9_follow 39 = .ok (.iload_n 2, 1) := by decide +kernel
theorem dX9_follow_40 : decode cX9_follow 40 = .ok (.aload_n 0, 1) := by decide +kernel
theorem dX9_follow_41 : decode cX9_follow 41 = .ok (.getfield 18, 3) := by decide +kernel
theorem dX9_follow_44 : decode cX9_follow 44 = .ok (.iload_n 2, 1) := by decide +kernel
theorem dX9_follow_45 : decode cX9_follow 45 = .ok (.iaload, 1) := by decide +kernel
theorem dX9_follow_46 : decode cX9_follow 46 = .ok (.i2l, 1) := by decide +kernel
theorem dX9_follow_47 : decode cX9_follow 47 = .ok (.lconst 1, 1) := by decide +kernel
theorem dX9_follow_48 : decode cX9_follow 48 = .ok (.invokevirtual 36, 3) := by decide +kernel
theorem dX9_follow_51 : decode cX9_follow 51 = .ok (.iinc 2 1, 3) := by decide +kernel
theorem dX9_follow_54 : decode cX9_follow 54 = .ok (.goto (-52), 3) := by decide +kernel
theorem dX9_follow_57 : decode cX9_follow 57 = .ok (.iconst 0, 1) := by decide +kernel
theorem dX9_follow_58 : decode cX9_follow 58 = .ok (.istore_n 2, 1) := by decide +kernel
theorem dX9_follow_59 : decode cX9_follow 59 = .ok (.iload_n 2, 1) := by decide +kernel
theorem dX9_follow_60 : decode cX9_follow 60 = .ok (.aload_n 0, 1) := by decide +kernel
theorem dX9_follow_61 : decode cX9_follow 61 = .ok (.getfield 22, 3) := by decide +kernel
theorem dX9_follow_64 : decode cX9_follow 64 = .ok (.getfield 26, 3) := by decide +kernel
theorem dX9_follow_67 : decode cX9_follow 67 = .ok (.if_icmp .ge 51, 3) := by decide +kernel
theorem dX9_follow_70 : decode cX9_follow 70 = .ok (.iconst 0, 1) := by decide +kernel
theorem dX9_follow_71 : decode cX9_follow 71 = .ok (.istore_n 3, 1) := by decide +kernel
theorem dX9_follow_72 : decode cX9_follow 72 = .ok (.iload_n 3, 1) := by decide +kernel
theorem dX9_follow_73 : decode cX9_follow 73 = .ok (.aload_n 0, 1) := by decide +kernel
theorem dX9_follow_74 : decode cX9_follow 74 = .ok (.getfield 22, 3) := by decide +kernel
theorem dX9_follow_77 : decode cX9_follow 77 = .ok (.getfield 26, 3) := by decide +kernel
theorem dX9_follow_80 : decode cX9_follow 80 = .ok (.if_icmp .ge 32, 3) := by decide +kernel
theorem dX9_follow_83 : decode cX9_follow 83 = .ok (.aload_n 0, 1) := by decide +kernel
theorem dX9_follow_84 : decode cX9_follow 84 = .ok (.getfield 22, 3) := by decide +kernel
theorem dX9_follow_87 : decode cX9_follow 87 = .ok (.iload_n 3, 1) := by decide +kernel
theorem dX9_follow_88 : decode cX9_follow 88 = .ok (.invokevirtual 32, 3) := by decide +kernel
theorem dX9_follow_91 : decode cX9_follow 91 = .ok (.ifCond .ne 15, 3) := by decide +kernel
theorem dX9_follow_94 : decode cX9_follow 94 = .ok (.aload_n 0, 1) := by decide +kernel
theorem dX9_follow_95 : decode cX9_follow 95 = .ok (.iload_n 3, 1) := by decide +kernel
theorem dX9_follow_96 : decode cX9_follow 96 = .ok (.iload_n 3, 1) := by decide +kernel
theorem dX9_follow_97 : decode cX9_follow 97 = .ok (.aload_n 1, 1) := by decide +kernel
theorem dX9_follow_98 : decode cX9_follow 98 = .ok (.iload_n 3, 1) := by decide +kernel
theorem dX9_follow_99 : decode cX9_follow 99 = .ok (.iaload, 1) := by decide +kernel
theorem dX9_follow_100 : decode cX9_follow 100 = .ok (.invokestatic 40, 3) := by decide +kernel
theorem dX9_follow_103 : decode cX9_follow 103 = .ok (.invokevirtual 44, 3) := by decide +kernel
theorem dX9_follow_106 : decode cX9_follow 106 = .ok (.iinc 3 1, 3) := by decide +kernel
theorem dX9_follow_109 : decode cX9_follow 109 = .ok (.goto (-37), 3) := by decide +kernel
theorem dX9_follow_112 : decode cX9_follow 112 = .ok (.iinc 2 1, 3) := by decide +kernel
theorem dX9_follow_115 : decode cX9_follow 115 = .ok (.goto (-56), 3) := by decide +kernel
theorem dX9_follow_118 : decode cX9_follow 118 = .ok (.return_, 1) := by decide +kernel
theorem dX9_lengthen_0 : decode cX9_lengthen 0 = .ok (.iconst 0, 1) := by decide +kernel
theorem dX9_lengthen_1 : decode cX9_lengthen 1 = .ok (.istore_n 3, 1) := by decide +kernel
theorem dX9_lengthen_2 : decode cX9_lengthen 2 = .ok (.iload_n 3, 1) := by decide +kernel
theorem dX9_lengthen_3 : decode cX9_lengthen 3 = .ok (.aload_n 0, 1) := by decide +kernel
theorem dX9_lengthen_4 : decode cX9_lengthen 4 = .ok (.getfield 22, 3) := by decide +kernel
theorem dX9_lengthen_7 : decode cX9_lengthen 7 = .ok (.getfield 26, 3) := by decide +kernel
theorem dX9_lengthen_10 : decode cX9_lengthen 10 = .ok (.if_icmp .ge 158, 3) := by decide +kernel
theorem dX9_lengthen_13 : decode cX9_lengthen 13 = .ok (.aload_n 0, 1) := by decide +kernel
theorem dX9_lengthen_14 : decode cX9_lengthen 14 = .ok (.getfield 22, 3) := by decide +kernel
theorem dX9_lengthen_17 : decode cX9_lengthen 17 = .ok (.getfield 48, 3) := by decide +kernel
theorem dX9_lengthen_20 : decode cX9_lengthen 20 = .ok (.iload_n 2, 1) := by decide +kernel
theorem dX9_lengthen_21 : decode cX9_lengthen 21 = .ok (.aaload, 1) := by decide +kernel
theorem dX9_lengthen_22 : decode cX9_lengthen 22 = .ok (.iload_n 3, 1) := by decide +kernel
theorem dX9_lengthen_23 : decode cX9_lengthen 23 = .ok (.iaload, 1) := by decide +kernel
theorem dX9_lengthen_24 : decode cX9_lengthen 24 = .ok (.ifCond .le 138, 3) := by decide +kernel
theorem dX9_lengthen_27 : decode cX9_lengthen 27 = .ok (.aload_n 0, 1) := by decide +kernel
theorem dX9_lengthen_28 : decode cX9_lengthen 28 = .ok (.getfield 18, 3) := by decide +kernel
theorem dX9_lengthen_31 : decode cX9_lengthen 31 = .ok (.iload_n 3, 1) := by decide +kernel
theorem dX9_lengthen_32 : decode cX9_lengthen 32 = .ok (.iaload, 1) := by decide +kernel
theorem dX9_lengthen_33 : decode cX9_lengthen 33 = .ok (.ifCond .le 129, 3) := by decide +kernel
theorem dX9_lengthen_36 : decode cX9_lengthen 36 = .ok (.aload_n 0, 1) := by decide +kernel
theorem dX9_lengthen_37 : decode cX9_lengthen 37 = .ok (.getfield 22, 3) := by decide +kernel
theorem dX9_lengthen_40 : decode cX9_lengthen 40 = .ok (.getfield 48, 3) := by decide +kernel
theorem dX9_lengthen_43 : decode cX9_lengthen 43 = .ok (.iload_n 2, 1) := by decide +kernel
theorem dX9_lengthen_44 : decode cX9_lengthen 44 = .ok (.aaload, 1) := by decide +kernel
theorem dX9_lengthen_45 : decode cX9_lengthen 45 = .ok (.iload_n 3, 1) := by decide +kernel
theorem dX9_lengthen_46 : decode cX9_lengthen 46 = .ok (.iaload, 1) := by decide +kernel
theorem dX9_lengthen_47 : decode cX9_lengthen 47 = .ok (.i2l, 1) := by decide +kernel
theorem dX9_lengthen_48 : decode cX9_lengthen 48 = .ok (.aload_n 0, 1) := by decide +kernel
theorem dX9_lengthen_49 : decode cX9_lengthen 49 = .ok (.getfield 12, 3) := by decide +kernel
theorem dX9_lengthen_52 : decode cX9_lengthen 52 = .ok (.getfield 52, 3) := by decide +kernel
theorem dX9_lengthen_55 : decode cX9_lengthen 55 = .ok (.iload_n 3, 1) := by decide +kernel
theorem dX9_lengthen_56 : decode cX9_lengthen 56 = .ok (.laload, 1) := by decide +kernel
theorem dX9_lengthen_57 : decode cX9_lengthen 57 = .ok (.lmul, 1) := by decide +kernel
theorem dX9_lengthen_58 : decode cX9_lengthen 58 = .ok (.lstore 4, 2) := by decide +kernel
theorem dX9_lengthen_60 : decode cX9_lengthen 60 = .ok (.aload_n 0, 1) := by decide +kernel
theorem dX9_lengthen_61 : decode cX9_lengthen 61 = .ok (.getfield 22, 3) := by decide +kernel
theorem dX9_lengthen_64 : decode cX9_lengthen 64 = .ok (.getfield 56, 3) := by decide +kernel
theorem dX9_lengthen_67 : decode cX9_lengthen 67 = .ok (.iload_n 2, 1) := by decide +kernel
theorem dX9_lengthen_68 : decode cX9_lengthen 68 = .ok (.iaload, 1) := by decide +kernel
theorem dX9_lengthen_69 : decode cX9_lengthen 69 = .ok (.i2l, 1) := by decide +kernel
theorem dX9_lengthen_70 : decode cX9_lengthen 70 = .ok (.aload_n 0, 1) := by decide +kernel
theorem dX9_lengthen_71 : decode cX9_lengthen 71 = .ok (.getfield 12, 3) := by decide +kernel
theorem dX9_lengthen_74 : decode cX9_lengthen 74 = .ok (.getfield 59, 3) := by decide +kernel
theorem dX9_lengthen_77 : decode cX9_lengthen 77 = .ok (.iload_n 3, 1) := by decide +kernel
theorem dX9_lengthen_78 : decode cX9_lengthen 78 = .ok (.laload, 1) := by decide +kernel
theorem dX9_lengthen_79 : decode cX9_lengthen 79 = .ok (.lmul, 1) := by decide +kernel
theorem dX9_lengthen_80 : decode cX9_lengthen 80 = .ok (.lstore 6, 2) := by decide +kernel
theorem dX9_lengthen_82 : decode cX9_lengthen 82 = .ok (.lload 4, 2) := by decide +kernel
theorem dX9_lengthen_84 : decode cX9_lengthen 84 = .ok (.lload 6, 2) := by decide +kernel
theorem dX9_lengthen_86 : decode cX9_lengthen 86 = .ok (.aload_n 0, 1) := by decide +kernel
theorem dX9_lengthen_87 : decode cX9_lengthen 87 = .ok (.getfield 12, 3) := by decide +kernel
theorem dX9_lengthen_90 : decode cX9_lengthen 90 = .ok (.getfield 52, 3) := by decide +kernel
theorem dX9_lengthen_93 : decode cX9_lengthen 93 = .ok (.iload_n 1, 1) := by decide +kernel
theorem dX9_lengthen_94 : decode cX9_lengthen 94 = .ok (.laload, 1) := by decide +kernel
theorem dX9_lengthen_95 : decode cX9_lengthen 95 = .ok (.aload_n 0, 1) := by decide +kernel
theorem dX9_lengthen_96 : decode cX9_lengthen 96 = .ok (.getfield 12, 3) := by decide +kernel
theorem dX9_lengthen_99 : decode cX9_lengthen 99 = .ok (.getfield 59, 3) := by decide +kernel
theorem dX9_lengthen_102 : decode cX9_lengthen 102 = .ok (.iload_n 1, 1) := by decide +kernel
theorem dX9_lengthen_103 : decode cX9_lengthen 103 = .ok (.laload, 1) := by decide +kernel
theorem dX9_lengthen_104 : decode cX9_lengthen 104 = .ok (.invokestatic 62, 3) := by decide +kernel
theorem dX9_lengthen_107 : decode cX9_lengthen 107 = .ok (.istore 8, 2) := by decide +kernel
theorem dX9_lengthen_109 : decode cX9_lengthen 109 = .ok (.iload 8, 2) := by decide +kernel
theorem dX9_lengthen_111 : decode cX9_lengthen 111 = .ok (.ifCond .gt 25, 3) := by decide +kernel
theorem dX9_lengthen_114 : decode cX9_lengthen 114 = .ok (.iload 8, 2) := by decide +kernel
theorem dX9_lengthen_116 : decode cX9_lengthen 116 = .ok (.ifCond .ne 46, 3) := by decide +kernel
theorem dX9_lengthen_119 : decode cX9_lengthen 119 = .ok (.aload_n 0, 1) := by decide +kernel
theorem dX9_lengthen_120 : decode cX9_lengthen 120 = .ok (.getfield 18, 3) := by decide +kernel
theorem dX9_lengthen_123 : decode cX9_lengthen 123 = .ok (.iload_n 3, 1) := by decide +kernel
theorem dX9_lengthen_124 : decode cX9_lengthen 124 = .ok (.iaload, 1) := by decide +kernel
theorem dX9_lengthen_125 : decode cX9_lengthen 125 = .ok (.iconst 1, 1) := by decide +kernel
theorem dX9_lengthen_126 : decode cX9_lengthen 126 = .ok (.iadd, 1) := by decide +kernel
theorem dX9_lengthen_127 : decode cX9_lengthen 127 = .ok (.aload_n 0, 1) := by decide +kernel
theorem dX9_lengthen_128 : decode cX9_lengthen 128 = .ok (.getfield 18, 3) := by decide +kernel
theorem dX9_lengthen_131 : decode cX9_lengthen 131 = .ok (.iload_n 1, 1) := by decide +kernel
theorem dX9_lengthen_132 : decode cX9_lengthen 132 = .ok (.iaload, 1) := by decide +kernel
theorem dX9_lengthen_133 : decode cX9_lengthen 133 = .ok (.if_icmp .ge 29, 3) := by decide +kernel
theorem dX9_lengthen_136 : decode cX9_lengthen 136 = .ok (.aload_n 0, 1) := by decide +kernel
theorem dX9_lengthen_137 : decode cX9_lengthen 137 = .ok (.getfield 12, 3) := by decide +kernel
theorem dX9_lengthen_140 : decode cX9_lengthen 140 = .ok (.iload_n 1, 1) := by decide +kernel
theorem dX9_lengthen_141 : decode cX9_lengthen 141 = .ok (.lload 4, 2) := by decide +kernel
theorem dX9_lengthen_143 : decode cX9_lengthen 143 = .ok (.lload 6, 2) := by decide +kernel
theorem dX9_lengthen_145 : decode cX9_lengthen 145 = .ok (.invokevirtual 36, 3) := by decide +kernel
theorem dX9_lengthen_148 : decode cX9_lengthen 148 = .ok (.aload_n 0, 1) := by decide +kernel
theorem dX9_lengthen_149 : decode cX9_lengthen 149 = .ok (.getfield 18, 3) := by decide +kernel
theorem dX9_lengthen_152 : decode cX9_lengthen 152 = .ok (.iload_n 1, 1) := by decide +kernel
theorem dX9_lengthen_153 : decode cX9_lengthen 153 = .ok (.aload_n 0, 1) := by decide +kernel
theorem dX9_lengthen_154 : decode cX9_lengthen 154 = .ok (.getfield 18, 3) := by decide +kernel
theorem dX9_lengthen_157 : decode cX9_lengthen 157 = .ok (.iload_n 3, 1) := by decide +kernel
theorem dX9_lengthen_158 : decode cX9_lengthen 158 = .ok (.iaload, 1) := by decide +kernel
theorem dX9_lengthen_159 : decode cX9_lengthen 159 = .ok (.iconst 1, 1) := by decide +kernel
theorem dX9_lengthen_160 : decode cX9_lengthen 160 = .ok (.iadd, 1) := by decide +kernel
theorem dX9_lengthen_161 : decode cX9_lengthen 161 = .ok (.iastore, 1) := by decide +kernel
theorem dX9_lengthen_162 : decode cX9_lengthen 162 = .ok (.iinc 3 1, 3) := by decide +kernel
theorem dX9_lengthen_165 : decode cX9_lengthen 165 = .ok (.goto (-163), 3) := by decide +kernel
theorem dX9_lengthen_168 : decode cX9_lengthen 168 = .ok (.return_, 1) := by decide +kernel
theorem dX9_stateAt_0 : decode cX9_stateAt 0 = .ok (.iload_n 1, 1) := by decide +kernel
theorem dX9_stateAt_1 : decode cX9_stateAt 1 = .ok (.istore 4, 2) := by decide +kernel
theorem dX9_stateAt_3 : decode cX9_stateAt 3 = .ok (.iconst 0, 1) := by decide +kernel
theorem dX9_stateAt_4 : decode cX9_stateAt 4 = .ok (.istore 5, 2) := by decide +kernel
theorem dX9_stateAt_6 : decode cX9_stateAt 6 = .ok (.iload 5, 2) := by decide +kernel
theorem dX9_stateAt_8 : decode cX9_stateAt 8 = .ok (.iload_n 2, 1) := by decide +kernel
theorem dX9_stateAt_9 : decode cX9_stateAt 9 = .ok (.if_icmp .ge 33, 3) := by decide +kernel
theorem dX9_stateAt_12 : decode cX9_stateAt 12 = .ok (.iload 5, 2) := by decide +kernel
theorem dX9_stateAt_14 : decode cX9_stateAt 14 = .ok (.bipush 7, 2) := by decide +kernel
theorem dX9_stateAt_16 : decode cX9_stateAt 16 = .ok (.if_icmp .ge 26, 3) := by decide +kernel
theorem dX9_stateAt_19 : decode cX9_stateAt 19 = .ok (.aload_n 0, 1) := by decide +kernel
theorem dX9_stateAt_20 : decode cX9_stateAt 20 = .ok (.iload 4, 2) := by decide +kernel
theorem dX9_stateAt_22 : decode cX9_stateAt 22 = .ok (.iload 4, 2) := by decide +kernel
theorem dX9_stateAt_24 : decode cX9_stateAt 24 = .ok (.aload_n 3, 1) := by decide +kernel
theorem dX9_stateAt_25 : decode cX9_stateAt 25 = .ok (.iload 4, 2) := by decide +kernel
theorem dX9_stateAt_27 : decode cX9_stateAt 27 = .ok (.iaload, 1) := by decide +kernel
theorem dX9_stateAt_28 : decode cX9_stateAt 28 = .ok (.invokestatic 40, 3) := by decide +kernel
theorem dX9_stateAt_31 : decode cX9_stateAt 31 = .ok (.invokevirtual 66, 3) := by decide +kernel
theorem dX9_stateAt_34 : decode cX9_stateAt 34 = .ok (.istore 4, 2) := by decide +kernel
theorem dX9_stateAt_36 : decode cX9_stateAt 36 = .ok (.iinc 5 1, 3) := by decide +kernel
theorem dX9_stateAt_39 : decode cX9_stateAt 39 = .ok (.goto (-33), 3) := by decide +kernel
theorem dX9_stateAt_42 : decode cX9_stateAt 42 = .ok (.iload 4, 2) := by decide +kernel
theorem dX9_stateAt_44 : decode cX9_stateAt 44 = .ok (.ireturn, 1) := by decide +kernel
theorem dX9_nextOf_0 : decode cX9_nextOf 0 = .ok (.iconst 0, 1) := by decide +kernel
theorem dX9_nextOf_1 : decode cX9_nextOf 1 = .ok (.istore_n 3, 1) := by decide +kernel
theorem dX9_nextOf_2 : decode cX9_nextOf 2 = .ok (.iload_n 3, 1) := by decide +kernel
theorem dX9_nextOf_3 : decode cX9_nextOf 3 = .ok (.aload_n 0, 1) := by decide +kernel
theorem dX9_nextOf_4 : decode cX9_nextOf 4 = .ok (.getfield 22, 3) := by decide +kernel
theorem dX9_nextOf_7 : decode cX9_nextOf 7 = .ok (.getfield 26, 3) := by decide +kernel
theorem dX9_nextOf_10 : decode cX9_nextOf 10 = .ok (.if_icmp .ge 125, 3) := by decide +kernel
theorem dX9_nextOf_13 : decode cX9_nextOf 13 = .ok (.aload_n 0, 1) := by decide +kernel
theorem dX9_nextOf_14 : decode cX9_nextOf 14 = .ok (.getfield 22, 3) := by decide +kernel
theorem dX9_nextOf_17 : decode cX9_nextOf 17 = .ok (.getfield 48, 3) := by decide +kernel
theorem dX9_nextOf_20 : decode cX9_nextOf 20 = .ok (.iload_n 2, 1) := by decide +kernel
theorem dX9_nextOf_21 : decode cX9_nextOf 21 = .ok (.aaload, 1) := by decide +kernel
theorem dX9_nextOf_22 : decode cX9_nextOf 22 = .ok (.iload_n 3, 1) := by decide +kernel
theorem dX9_nextOf_23 : decode cX9_nextOf 23 = .ok (.iaload, 1) := by decide +kernel
theorem dX9_nextOf_24 : decode cX9_nextOf 24 = .ok (.ifCond .le 105, 3) := by decide +kernel
theorem dX9_nextOf_27 : decode cX9_nextOf 27 = .ok (.aload_n 0, 1) := by decide +kernel
theorem dX9_nextOf_28 : decode cX9_nextOf 28 = .ok (.getfield 18, 3) := by decide +kernel
theorem dX9_nextOf_31 : decode cX9_nextOf 31 = .ok (.iload_n 3, 1) := by decide +kernel
theorem dX9_nextOf_32 : decode cX9_nextOf 32 = .ok (.iaload, 1) := by decide +kernel
theorem dX9_nextOf_33 : decode cX9_nextOf 33 = .ok (.ifCond .le 96, 3) := by decide +kernel
theorem dX9_nextOf_36 : decode cX9_nextOf 36 = .ok (.aload_n 0, 1) := by decide +kernel
theorem dX9_nextOf_37 : decode cX9_nextOf 37 = .ok (.getfield 18, 3) := by decide +kernel
theorem dX9_nextOf_40 : decode cX9_nextOf 40 = .ok (.iload_n 3, 1) := by decide +kernel
theorem dX9_nextOf_41 : decode cX9_nextOf 41 = .ok (.iaload, 1) := by decide +kernel
theorem dX9_nextOf_42 : decode cX9_nextOf 42 = .ok (.aload_n 0, 1) := by decide +kernel
theorem dX9_nextOf_43 : decode cX9_nextOf 43 = .ok (.getfield 18, 3) := by decide +kernel
theorem dX9_nextOf_46 : decode cX9_nextOf 46 = .ok (.iload_n 1, 1) := by decide +kernel
theorem dX9_nextOf_47 : decode cX9_nextOf 47 = .ok (.iaload, 1) := by decide +kernel
theorem dX9_nextOf_48 : decode cX9_nextOf 48 = .ok (.iconst 1, 1) := by decide +kernel
theorem dX9_nextOf_49 : decode cX9_nextOf 49 = .ok (.isub, 1) := by decide +kernel
theorem dX9_nextOf_50 : decode cX9_nextOf 50 = .ok (.if_icmp .ne 79, 3) := by decide +kernel
theorem dX9_nextOf_53 : decode cX9_nextOf 53 = .ok (.aload_n 0, 1) := by decide +kernel
theorem dX9_nextOf_54 : decode cX9_nextOf 54 = .ok (.getfield 22, 3) := by decide +kernel
theorem dX9_nextOf_57 : decode cX9_nextOf 57 = .ok (.getfield 48, 3) := by decide +kernel
theorem dX9_nextOf_60 : decode cX9_nextOf 60 = .ok (.iload_n 2, 1) := by decide +kernel
theorem dX9_nextOf_61 : decode cX9_nextOf 61 = .ok (.aaload, 1) := by decide +kernel
theorem dX9_nextOf_62 : decode cX9_nextOf 62 = .ok (.iload_n 3, 1) := by decide +kernel
theorem dX9_nextOf_63 : decode cX9_nextOf 63 = .ok (.iaload, 1) := by decide +kernel
theorem dX9_nextOf_64 : decode cX9_nextOf 64 = .ok (.i2l, 1) := by decide +kernel
theorem dX9_nextOf_65 : decode cX9_nextOf 65 = .ok (.aload_n 0, 1) := by decide +kernel
theorem dX9_nextOf_66 : decode cX9_nextOf 66 = .ok (.getfield 12, 3) := by decide +kernel
theorem dX9_nextOf_69 : decode cX9_nextOf 69 = .ok (.getfield 52, 3) := by decide +kernel
theorem dX9_nextOf_72 : decode cX9_nextOf 72 = .ok (.iload_n 3, 1) := by decide +kernel
theorem dX9_nextOf_73 : decode cX9_nextOf 73 = .ok (.laload, 1) := by decide +kernel
theorem dX9_nextOf_74 : decode cX9_nextOf 74 = .ok (.lmul, 1) := by decide +kernel
theorem dX9_nextOf_75 : decode cX9_nextOf 75 = .ok (.lstore 4, 2) := by decide +kernel
theorem dX9_nextOf_77 : decode cX9_nextOf 77 = .ok (.aload_n 0, 1) := by decide +kernel
theorem dX9_nextOf_78 : decode cX9_nextOf 78 = .ok (.getfield 22, 3) := by decide +kernel
theorem dX9_nextOf_81 : decode cX9_nextOf 81 = .ok (.getfield 56, 3) := by decide +kernel
theorem dX9_nextOf_84 : decode cX9_nextOf 84 = .ok (.iload_n 2, 1) := by decide +kernel
theorem dX9_nextOf_85 : decode cX9_nextOf 85 = .ok (.iaload, 1) := by decide +kernel
theorem dX9_nextOf_86 : decode cX9_nextOf 86 = .ok (.i2l, 1) := by decide +kernel
theorem dX9_nextOf_87 : decode cX9_nextOf 87 = .ok (.aload_n 0, 1) := by decide +kernel
theorem dX9_nextOf_88 : decode cX9_nextOf 88 = .ok (.getfield 12, 3) := by decide +kernel
theorem dX9_nextOf_91 : decode cX9_nextOf 91 = .ok (.getfield 59, 3) := by decide +kernel
theorem dX9_nextOf_94 : decode cX9_nextOf 94 = .ok (.iload_n 3, 1) := by decide +kernel
theorem dX9_nextOf_95 : decode cX9_nextOf 95 = .ok (.laload, 1) := by decide +kernel
theorem dX9_nextOf_96 : decode cX9_nextOf 96 = .ok (.lmul, 1) := by decide +kernel
theorem dX9_nextOf_97 : decode cX9_nextOf 97 = .ok (.lstore 6, 2) := by decide +kernel
theorem dX9_nextOf_99 : decode cX9_nextOf 99 = .ok (.lload 4, 2) := by decide +kernel
theorem dX9_nextOf_101 : decode cX9_nextOf 101 = .ok (.lload 6, 2) := by decide +kernel
theorem dX9_nextOf_103 : decode cX9_nextOf 103 = .ok (.aload_n 0, 1) := by decide +kernel
theorem dX9_nextOf_104 : decode cX9_nextOf 104 = .ok (.getfield 12, 3) := by decide +kernel
theorem dX9_nextOf_107 : decode cX9_nextOf 107 = .ok (.getfield 52, 3) := by decide +kernel
theorem dX9_nextOf_110 : decode cX9_nextOf 110 = .ok (.iload_n 1, 1) := by decide +kernel
theorem dX9_nextOf_111 : decode cX9_nextOf 111 = .ok (.laload, 1) := by decide +kernel
theorem dX9_nextOf_112 : decode cX9_nextOf 112 = .ok (.aload_n 0, 1) := by decide +kernel
theorem dX9_nextOf_113 : decode cX9_nextOf 113 = .ok (.getfield 12, 3) := by decide +kernel
theorem dX9_nextOf_116 : decode cX9_nextOf 116 = .ok (.getfield 59, 3) := by decide +kernel
theorem dX9_nextOf_119 : decode cX9_nextOf 119 = .ok (.iload_n 1, 1) := by decide +kernel
theorem dX9_nextOf_120 : decode cX9_nextOf 120 = .ok (.laload, 1) := by decide +kernel
theorem dX9_nextOf_121 : decode cX9_nextOf 121 = .ok (.invokestatic 62, 3) := by decide +kernel
theorem dX9_nextOf_124 : decode cX9_nextOf 124 = .ok (.ifCond .ne 5, 3) := by decide +kernel
theorem dX9_nextOf_127 : decode cX9_nextOf 127 = .ok (.iload_n 3, 1) := by decide +kernel
theorem dX9_nextOf_128 : decode cX9_nextOf 128 = .ok (.ireturn, 1) := by decide +kernel
theorem dX9_nextOf_129 : decode cX9_nextOf 129 = .ok (.iinc 3 1, 3) := by decide +kernel
theorem dX9_nextOf_132 : decode cX9_nextOf 132 = .ok (.goto (-130), 3) := by decide +kernel
theorem dX9_nextOf_135 : decode cX9_nextOf 135 = .ok (.iload_n 1, 1) := by decide +kernel
theorem dX9_nextOf_136 : decode cX9_nextOf 136 = .ok (.ireturn, 1) := by decide +kernel
theorem dX10_init_0 : decode cX10_init 0 = .ok (.aload_n 0, 1) := by decide +kernel
theorem dX10_init_1 : decode cX10_init 1 = .ok (.invokespecial 3, 3) := by decide +kernel
theorem dX10_init_4 : decode cX10_init 4 = .ok (.aload_n 0, 1) := by decide +kernel
theorem dX10_init_5 : decode cX10_init 5 = .ok (.bipush 7, 2) := by decide +kernel
theorem dX10_init_7 : decode cX10_init 7 = .ok (.newarray .long, 2) := by decide +kernel
theorem dX10_init_9 : decode cX10_init 9 = .ok (.putfield 9, 3) := by decide +kernel
theorem dX10_init_12 : decode cX10_init 12 = .ok (.aload_n 0, 1) := by decide +kernel
theorem dX10_init_13 : decode cX10_init 13 = .ok (.bipush 7, 2) := by decide +kernel
theorem dX10_init_15 : decode cX10_init 15 = .ok (.newarray .long, 2) := by decide +kernel
theorem dX10_init_17 : decode cX10_init 17 = .ok (.putfield 15, 3) := by decide +kernel
theorem dX10_init_20 : decode cX10_init 20 = .ok (.return_, 1) := by decide +kernel
theorem dX10_put_0 : decode cX10_put 0 = .ok (.aload_n 0, 1) := by decide +kernel
theorem dX10_put_1 : decode cX10_put 1 = .ok (.getfield 9, 3) := by decide +kernel
theorem dX10_put_4 : decode cX10_put 4 = .ok (.iload_n 1, 1) := by decide +kernel
theorem dX10_put_5 : decode cX10_put 5 = .ok (.lload_n 2, 1) := by decide +kernel
theorem dX10_put_6 : decode cX10_put 6 = .ok (.lastore, 1) := by decide +kernel
theorem dX10_put_7 : decode cX10_put 7 = .ok (.aload_n 0, 1) := by decide +kernel
theorem dX10_put_8 : decode cX10_put 8 = .ok (.getfield 15, 3) := by decide +kernel
theorem dX10_put_11 : decode cX10_put 11 = .ok (.iload_n 1, 1) := by decide +kernel
theorem dX10_put_12 : decode cX10_put 12 = .ok (.lload 4, 2) := by decide +kernel
theorem dX10_put_14 : decode cX10_put 14 = .ok (.lastore, 1) := by decide +kernel
theorem dX10_put_15 : decode cX10_put 15 = .ok (.return_, 1) := by decide +kernel
theorem dX11_init_0 : decode cX11_init 0 = .ok (.aload_n 0, 1) := by decide +kernel
theorem dX11_init_1 : decode cX11_init 1 = .ok (.invokespecial 1, 3) := by decide +kernel
theorem dX11_init_4 : decode cX11_init 4 = .ok (.new 7, 3) := by decide +kernel
theorem dX11_init_7 : decode cX11_init 7 = .ok (.dup, 1) := by decide +kernel
theorem dX11_init_8 : decode cX11_init 8 = .ok (.invokespecial 9, 3) := by decide +kernel
theorem dX11_init_11 : decode cX11_init 11 = .ok (.astore_n 1, 1) := by decide +kernel
theorem dX11_init_12 : decode cX11_init 12 = .ok (.new 10, 3) := by decide +kernel
theorem dX11_init_15 : decode cX11_init 15 = .ok (.dup, 1) := by decide +kernel
theorem dX11_init_16 : decode cX11_init 16 = .ok (.aload_n 1, 1) := by decide +kernel
theorem dX11_init_17 : decode cX11_init 17 = .ok (.invokespecial 12, 3) := by decide +kernel
theorem dX11_init_20 : decode cX11_init 20 = .ok (.astore_n 2, 1) := by decide +kernel
theorem dX11_init_21 : decode cX11_init 21 = .ok (.new 15, 3) := by decide +kernel
theorem dX11_init_24 : decode cX11_init 24 = .ok (.dup, 1) := by decide +kernel
theorem dX11_init_25 : decode cX11_init 25 = .ok (.aload_n 1, 1) := by decide +kernel
theorem dX11_init_26 : decode cX11_init 26 = .ok (.invokespecial 17, 3) := by decide +kernel
theorem dX11_init_29 : decode cX11_init 29 = .ok (.astore_n 3, 1) := by decide +kernel
theorem dX11_init_30 : decode cX11_init 30 = .ok (.new 18, 3) := by decide +kernel
theorem dX11_init_33 : decode cX11_init 33 = .ok (.dup, 1) := by decide +kernel
theorem dX11_init_34 : decode cX11_init 34 = .ok (.aload_n 1, 1) := by decide +kernel
theorem dX11_init_35 : decode cX11_init 35 = .ok (.aload_n 2, 1) := by decide +kernel
theorem dX11_init_36 : decode cX11_init 36 = .ok (.aload_n 3, 1) := by decide +kernel
theorem dX11_init_37 : decode cX11_init 37 = .ok (.invokespecial 20, 3) := by decide +kernel
theorem dX11_init_40 : decode cX11_init 40 = .ok (.astore 4, 2) := by decide +kernel
theorem dX11_init_42 : decode cX11_init 42 = .ok (.aload_n 0, 1) := by decide +kernel
theorem dX11_init_43 : decode cX11_init 43 = .ok (.aload_n 1, 1) := by decide +kernel
theorem dX11_init_44 : decode cX11_init 44 = .ok (.putfield 23, 3) := by decide +kernel
theorem dX11_init_47 : decode cX11_init 47 = .ok (.aload_n 0, 1) := by decide +kernel
theorem dX11_init_48 : decode cX11_init 48 = .ok (.bipush 7, 2) := by decide +kernel
theorem dX11_init_50 : decode cX11_init 50 = .ok (.newarray .int, 2) := by decide +kernel
theorem dX11_init_52 : decode cX11_init 52 = .ok (.putfield 29, 3) := by decide +kernel
theorem dX11_init_55 : decode cX11_init 55 = .ok (.aload_n 0, 1) := by decide +kernel
theorem dX11_init_56 : decode cX11_init 56 = .ok (.aload_n 2, 1) := by decide +kernel
theorem dX11_init_57 : decode cX11_init 57 = .ok (.putfield 33, 3) := by decide +kernel
theorem dX11_init_60 : decode cX11_init 60 = .ok (.aload_n 0, 1) := by decide +kernel
theorem dX11_init_61 : decode cX11_init 61 = .ok (.aload_n 3, 1) := by decide +kernel
theorem dX11_init_62 : decode cX11_init 62 = .ok (.putfield 37, 3) := by decide +kernel
theorem dX11_init_65 : decode cX11_init 65 = .ok (.aload_n 0, 1) := by decide +kernel
theorem dX11_init_66 : decode cX11_init 66 = .ok (.new 41, 3) := by decide +kernel
theorem dX11_init_69 : decode cX11_init 69 = .ok (.dup, 1) := by decide +kernel
theorem dX11_init_70 : decode cX11_init 70 = .ok (.aload_n 1, 1) := by decide +kernel
theorem dX11_init_71 : decode cX11_init 71 = .ok (.aload_n 2, 1) := by decide +kernel
theorem dX11_init_72 : decode cX11_init 72 = .ok (.aload_n 3, 1) := by decide +kernel
theorem dX11_init_73 : decode cX11_init 73 = .ok (.invokespecial 43, 3) := by decide +kernel
theorem dX11_init_76 : decode cX11_init 76 = .ok (.putfield 44, 3) := by decide +kernel
theorem dX11_init_79 : decode cX11_init 79 = .ok (.aload_n 0, 1) := by decide +kernel
theorem dX11_init_80 : decode cX11_init 80 = .ok (.aload 4, 2) := by decide +kernel
theorem dX11_init_82 : decode cX11_init 82 = .ok (.putfield 48, 3) := by decide +kernel
theorem dX11_init_85 : decode cX11_init 85 = .ok (.aload_n 0, 1) := by decide +kernel
theorem dX11_init_86 : decode cX11_init 86 = .ok (.new 52, 3) := by decide +kernel
theorem dX11_init_89 : decode cX11_init 89 = .ok (.dup, 1) := by decide +kernel
theorem dX11_init_90 : decode cX11_init 90 = .ok (.aload_n 1, 1) := by decide +kernel
theorem dX11_init_91 : decode cX11_init 91 = .ok (.aload_n 3, 1) := by decide +kernel
theorem dX11_init_92 : decode cX11_init 92 = .ok (.invokespecial 54, 3) := by decide +kernel
theorem dX11_init_95 : decode cX11_init 95 = .ok (.putfield 57, 3) := by decide +kernel
theorem dX11_init_98 : decode cX11_init 98 = .ok (.aload_n 0, 1) := by decide +kernel
theorem dX11_init_99 : decode cX11_init 99 = .ok (.new 61, 3) := by decide +kernel
theorem dX11_init_102 : decode cX11_init 102 = .ok (.dup, 1) := by decide +kernel
theorem dX11_init_103 : decode cX11_init 103 = .ok (.aload_n 1, 1) := by decide +kernel
theorem dX11_init_104 : decode cX11_init 104 = .ok (.aload_n 3, 1) := by decide +kernel
theorem dX11_init_105 : decode cX11_init 105 = .ok (.aload 4, 2) := by decide +kernel
theorem dX11_init_107 : decode cX11_init 107 = .ok (.invokespecial 63, 3) := by decide +kernel
theorem dX11_init_110 : decode cX11_init 110 = .ok (.putfield 66, 3) := by decide +kernel
theorem dX11_init_113 : decode cX11_init 113 = .ok (.aload_n 0, 1) := by decide +kernel
theorem dX11_init_114 : decode cX11_init 114 = .ok (.new 70, 3) := by decide +kernel
theorem dX11_init_117 : decode cX11_init 117 = .ok (.dup, 1) := by decide +kernel
theorem dX11_init_118 : decode cX11_init 118 = .ok (.aload_n 1, 1) := by decide +kernel
theorem dX11_init_119 : decode cX11_init 119 = .ok (.invokespecial 72, 3) := by decide +kernel
theorem dX11_init_122 : decode cX11_init 122 = .ok (.putfield 73, 3) := by decide +kernel
theorem dX11_init_125 : decode cX11_init 125 = .ok (.aload_n 0, 1) := by decide +kernel
theorem dX11_init_126 : decode cX11_init 126 = .ok (.new 77, 3) := by decide +kernel
theorem dX11_init_129 : decode cX11_init 129 = .ok (.dup, 1) := by decide +kernel
theorem dX11_init_130 : decode cX11_init 130 = .ok (.aload_n 1, 1) := by decide +kernel
theorem dX11_init_131 : decode cX11_init 131 = .ok (.invokespecial 79, 3) := by decide +kernel
theorem dX11_init_134 : decode cX11_init 134 = .ok (.putfield 80, 3) := by decide +kernel
theorem dX11_init_137 : decode cX11_init 137 = .ok (.aload_n 0, 1) := by decide +kernel
theorem dX11_init_138 : decode cX11_init 138 = .ok (.new 84, 3) := by decide +kernel
theorem dX11_init_141 : decode cX11_init 141 = .ok (.dup, 1) := by decide +kernel
theorem dX11_init_142 : decode cX11_init 142 = .ok (.invokespecial 86, 3) := by decide +kernel
theorem dX11_init_145 : decode cX11_init 145 = .ok (.putfield 87, 3) := by decide +kernel
theorem dX11_init_148 : decode cX11_init 148 = .ok (.return_, 1) := by decide +kernel
theorem dX11_addState_0 : decode cX11_addState 0 = .ok (.iload_n 1, 1) := by decide +kernel
theorem dX11_addState_1 : decode cX11_addState 1 = .ok (.invokestatic 91, 3) := by decide +kernel
theorem dX11_addState_4 : decode cX11_addState 4 = .ok (.iload_n 2, 1) := by decide +kernel
theorem dX11_addState_5 : decode cX11_addState 5 = .ok (.ifCond .lt 8, 3) := by decide +kernel
theorem dX11_addState_8 : decode cX11_addState 8 = .ok (.iload_n 2, 1) := by decide +kernel
theorem dX11_addState_9 : decode cX11_addState 9 = .ok (.iconst 3, 1) := by decide +kernel
theorem dX11_addState_10 : decode cX11_addState 10 = .ok (.if_icmp .le 13, 3) := by decide +kernel
theorem dX11_addState_13 : decode cX11_addState 13 = .ok (.new 95, 3) := by decide +kernel
theorem dX11_addState_16 : decode cX11_addState 16 = .ok (.dup, 1) := by decide +kernel
theorem dX11_addState_17 : decode cX11_addState 17 = .ok (.ldc 97, 2) := by decide +kernel
theorem dX11_addState_19 : decode cX11_addState 19 = .ok (.invokespecial 99, 3) := by decide +kernel
theorem dX11_addState_22 : decode cX11_addState 22 = .ok (.athrow, 1) := by decide +kernel
theorem dX11_addState_23 : decode cX11_addState 23 = .ok (.aload_n 0, 1) := by decide +kernel
theorem dX11_addState_24 : decode cX11_addState 24 = .ok (.getfield 23, 3) := by decide +kernel
theorem dX11_addState_27 : decode cX11_addState 27 = .ok (.getfield 102, 3) := by decide +kernel
theorem dX11_addState_30 : decode cX11_addState 30 = .ok (.bipush 7, 2) := by decide +kernel
theorem dX11_addState_32 : decode cX11_addState 32 = .ok (.if_icmp .lt 13, 3) := by decide +kernel
theorem dX11_addState_35 : decode cX11_addState 35 = .ok (.new 106, 3) := by decide +kernel
theorem dX11_addState_38 : decode cX11_addState 38 = .ok (.dup, 1) := by decide +kernel
theorem dX11_addState_39 : decode cX11_addState 39 = .ok (.ldc 108, 2) := by decide +kernel
theorem dX11_addState_41 : decode cX11_addState 41 = .ok (.invokespecial 110, 3) := by decide +kernel
theorem dX11_addState_44 : decode cX11_addState 44 = .ok (.athrow, 1) := by decide +kernel
theorem dX11_addState_45 : decode cX11_addState 45 = .ok (.aload_n 0, 1) := by decide +kernel
theorem dX11_addState_46 : decode cX11_addState 46 = .ok (.getfield 23, 3) := by decide +kernel
theorem dX11_addState_49 : decode cX11_addState 49 = .ok (.iload_n 1, 1) := by decide +kernel
theorem dX11_addState_50 : decode cX11_addState 50 = .ok (.bipush 97, 2) := by decide +kernel
theorem dX11_addState_52 : decode cX11_addState 52 = .ok (.if_icmp .ne 7, 3) := by decide +kernel
theorem dX11_addState_55 : decode cX11_addState 55 = .ok (.iconst 1, 1) := by decide +kernel
theorem dX11_addState_56 : decode cX11_addState 56 = .ok (.goto 4, 3) := by decide +kernel
theorem dX11_addState_59 : decode cX11_addState 59 = .ok (.iconst 0, 1) := by decide +kernel
theorem dX11_addState_60 : decode cX11_addState 60 = .ok (.iload_n 2, 1) := by decide +kernel
theorem dX11_addState_61 : decode cX11_addState 61 = .ok (.invokevirtual 111, 3) := by decide +kernel
theorem dX11_addState_64 : decode cX11_addState 64 = .ok (.ireturn, 1) := by decide +kernel
theorem dX11_addChoice_0 : decode cX11_addChoice 0 = .ok (.aload_n 0, 1) := by decide +kernel
theorem dX11_addChoice_1 : decode cX11_addChoice 1 = .ok (.iload_n 1, 1) := by decide +kernel
theorem dX11_addChoice_2 : decode cX11_addChoice 2 = .ok (.invokevirtual 115, 3) := by decide +kernel
theorem dX11_addChoice_5 : decode cX11_addChoice 5 = .ok (.iload_n 2, 1) := by decide +kernel
theorem dX11_addChoice_6 : decode cX11_addChoice 6 = .ok (.ifCond .lt 19, 3) := by decide +kernel
theorem dX11_addChoice_9 : decode cX11_addChoice 9 = .ok (.iload_n 2, 1) := by decide +kernel
theorem dX11_addChoice_10 : decode cX11_addChoice 10 = .ok (.bipush 9, 2) := by decide +kernel
theorem dX11_addChoice_12 : decode cX11_addChoice 12 = .ok (.if_icmp .gt 13, 3) := by decide +kernel
theorem dX11_addChoice_15 : decode cX11_addChoice 15 = .ok (.iload_n 3, 1) := by decide +kernel
theorem dX11_addChoice_16 : decode cX11_addChoice 16 = .ok (.ifCond .lt 9, 3) := by decide +kernel
theorem dX11_addChoice_19 : decode cX11_addChoice 19 = .ok (.iload_n 3, 1) := by decide +kernel
theorem dX11_addChoice_20 : decode cX11_addChoice 20 = .ok (.bipush 9, 2) := by decide +kernel
theorem dX11_addChoice_22 : decode cX11_addChoice 22 = .ok (.if_icmp .le 13, 3) := by decide +kernel
theorem dX11_addChoice_25 : decode cX11_addChoice 25 = .ok (.new 95, 3) := by decide +kernel
theorem dX11_addChoice_28 : decode cX11_addChoice 28 = .ok (.dup, 1) := by decide +kernel
theorem dX11_addChoice_29 : decode cX11_addChoice 29 = .ok (.ldc 119, 2) := by decide +kernel
theorem dX11_addChoice_31 : decode cX11_addChoice 31 = .ok (.invokespecial 99, 3) := by decide +kernel
theorem dX11_addChoice_34 : decode cX11_addChoice 34 = .ok (.athrow, 1) := by decide +kernel
theorem dX11_addChoice_35 : decode cX11_addChoice 35 = .ok (.aload_n 0, 1) := by decide +kernel
theorem dX11_addChoice_36 : decode cX11_addChoice 36 = .ok (.getfield 23, 3) := by decide +kernel
theorem dX11_addChoice_39 : decode cX11_addChoice 39 = .ok (.getfield 121, 3) := by decide +kernel
theorem dX11_addChoice_42 : decode cX11_addChoice 42 = .ok (.iload_n 1, 1) := by decide +kernel
theorem dX11_addChoice_43 : decode cX11_addChoice 43 = .ok (.iaload, 1) := by decide +kernel
theorem dX11_addChoice_44 : decode cX11_addChoice 44 = .ok (.iconst 3, 1) := by decide +kernel
theorem dX11_addChoice_45 : decode cX11_addChoice 45 = .ok (.if_icmp .lt 13, 3) := by decide +kernel
theorem dX11_addChoice_48 : decode cX11_addChoice 48 = .ok (.new 106, 3) := by decide +kernel
theorem dX11_addChoice_51 : decode cX11_addChoice 51 = .ok (.dup, 1) := by decide +kernel
theorem dX11_addChoice_52 : decode cX11_addChoice 52 = .ok (.ldc 124, 2) := by decide +kernel
theorem dX11_addChoice_54 : decode cX11_addChoice 54 = .ok (.invokespecial 110, 3) := by decide +kernel
theorem dX11_addChoice_57 : decode cX11_addChoice 57 = .ok (.athrow, 1) := by decide +kernel
theorem dX11_addChoice_58 : decode cX11_addChoice 58 = .ok (.aload_n 0, 1) := by decide +kernel
theorem dX11_addChoice_59 : decode cX11_addChoice 59 = .ok (.getfield 23, 3) := by decide +kernel
theorem dX11_addChoice_62 : decode cX11_addChoice 62 = .ok (.iload_n 1, 1) := by decide +kernel
theorem dX11_addChoice_63 : decode cX11_addChoice 63 = .ok (.iload_n 2, 1) := by decide +kernel
theorem dX11_addChoice_64 : decode cX11_addChoice 64 = .ok (.iload_n 3, 1) := by decide +kernel
theorem dX11_addChoice_65 : decode cX11_addChoice 65 = .ok (.invokevirtual 126, 3) := by decide +kernel
theorem dX11_addChoice_68 : decode cX11_addChoice 68 = .ok (.ireturn, 1) := by decide +kernel
theorem dX11_addWeight_0 : decode cX11_addWeight 0 = .ok (.aload_n 0, 1) := by decide +kernel
theorem dX11_addWeight_1 : decode cX11_addWeight 1 = .ok (.iload_n 1, 1) := by decide +kernel
theorem dX11_addWeight_2 : decode cX11_addWeight 2 = .ok (.iload_n 2, 1) := by decide +kernel
theorem dX11_addWeight_3 : decode cX11_addWeight 3 = .ok (.invokevirtual 130, 3) := by decide +kernel
theorem dX11_addWeight_6 : decode cX11_addWeight 6 = .ok (.aload_n 0, 1) := by decide +kernel
theorem dX11_addWeight_7 : decode cX11_addWeight 7 = .ok (.iload_n 3, 1) := by decide +kernel
theorem dX11_addWeight_8 : decode cX11_addWeight 8 = .ok (.invokevirtual 115, 3) := by decide +kernel
theorem dX11_addWeight_11 : decode cX11_addWeight 11 = .ok (.iload 4, 2) := by decide +kernel
theorem dX11_addWeight_13 : decode cX11_addWeight 13 = .ok (.iconst 1, 1) := by decide +kernel
theorem dX11_addWeight_14 : decode cX11_addWeight 14 = .ok (.if_icmp .lt 10, 3) := by decide +kernel
theorem dX11_addWeight_17 : decode cX11_addWeight 17 = .ok (.iload 4, 2) := by decide +kernel
theorem dX11_addWeight_19 : decode cX11_addWeight 19 = .ok (.bipush 6, 2) := by decide +kernel
theorem dX11_addWeight_21 : decode cX11_addWeight 21 = .ok (.if_icmp .le 13, 3) := by decide +kernel
theorem dX11_addWeight_24 : decode cX11_addWeight 24 = .ok (.new 95, 3) := by decide +kernel
theorem dX11_addWeight_27 : decode cX11_addWeight 27 = .ok (.dup, 1) := by decide +kernel
theorem dX11_addWeight_28 : decode cX11_addWeight 28 = .ok (.ldc 134, 2) := by decide +kernel
theorem dX11_addWeight_30 : decode cX11_addWeight 30 = .ok (.invokespecial 99, 3) := by decide +kernel
theorem dX11_addWeight_33 : decode cX11_addWeight 33 = .ok (.athrow, 1) := by decide +kernel
theorem dX11_addWeight_34 : decode cX11_addWeight 34 = .ok (.iload_n 1, 1) := by decide +kernel
theorem dX11_addWeight_35 : decode cX11_addWeight 35 = .ok (.iload_n 2, 1) := by decide +kernel
theorem dX11_addWeight_36 : decode cX11_addWeight 36 = .ok (.invokestatic 136, 3) := by decide +kernel
theorem dX11_addWeight_39 : decode cX11_addWeight 39 = .ok (.istore 5, 2) := by decide +kernel
theorem dX11_addWeight_41 : decode cX11_addWeight 41 = .ok (.aload_n 0, 1) := by decide +kernel
theorem dX11_addWeight_42 : decode cX11_addWeight 42 = .ok (.getfield 23, 3) := by decide +kernel
theorem dX11_addWeight_45 : decode cX11_addWeight 45 = .ok (.getfield 140, 3) := by decide +kernel
theorem dX11_addWeight_48 : decode cX11_addWeight 48 = .ok (.iload 5, 2) := by decide +kernel
theorem dX11_addWeight_50 : decode cX11_addWeight 50 = .ok (.iaload, 1) := by decide +kernel
theorem dX11_addWeight_51 : decode cX11_addWeight 51 = .ok (.iload 4, 2) := by decide +kernel
theorem dX11_addWeight_53 : decode cX11_addWeight 53 = .ok (.iadd, 1) := by decide +kernel
theorem dX11_addWeight_54 : decode cX11_addWeight 54 = .ok (.bipush 6, 2) := by decide +kernel
theorem dX11_addWeight_56 : decode cX11_addWeight 56 = .ok (.if_icmp .le 13, 3) := by decide +kernel
theorem dX11_addWeight_59 : decode cX11_addWeight 59 = .ok (.new 106, 3) := by decide +kernel
theorem dX11_addWeight_62 : decode cX11_addWeight 62 = .ok (.dup, 1) := by decide +kernel
theorem dX11_addWeight_63 : decode cX11_addWeight 63 = .ok (.ldc 143, 2) := by decide +kernel
theorem dX11_addWeight_65 : decode cX11_addWeight 65 = .ok (.invokespecial 110, 3) := by decide +kernel
theorem dX11_addWeight_68 : decode cX11_addWeight 68 = .ok (.athrow, 1) := by decide +kernel
theorem dX11_addWeight_69 : decode cX11_addWeight 69 = .ok (.aload_n 0, 1) := by decide +kernel
theorem dX11_addWeight_70 : decode cX11_addWeight 70 = .ok (.getfield 23, 3) := by decide +kernel
theorem dX11_addWeight_73 : decode cX11_addWeight 73 = .ok (.iload 5, 2) := by decide +kernel
theorem dX11_addWeight_75 : decode cX11_addWeight 75 = .ok (.iload_n 3, 1) := by decide +kernel
theorem dX11_addWeight_76 : decode cX11_addWeight 76 = .ok (.iload 4, 2) := by decide +kernel
theorem dX11_addWeight_78 : decode cX11_addWeight 78 = .ok (.invokevirtual 145, 3) := by decide +kernel
theorem dX11_addWeight_81 : decode cX11_addWeight 81 = .ok (.ireturn, 1) := by decide +kernel
theorem dX11_setTarget_0 : decode cX11_setTarget 0 = .ok (.aload_n 0, 1) := by decide +kernel
theorem dX11_setTarget_1 : decode cX11_setTarget 1 = .ok (.iload_n 1, 1) := by decide +kernel
theorem dX11_setTarget_2 : decode cX11_setTarget 2 = .ok (.invokevirtual 115, 3) := by decide +kernel
theorem dX11_setTarget_5 : decode cX11_setTarget 5 = .ok (.aload_n 0, 1) := by decide +kernel
theorem dX11_setTarget_6 : decode cX11_setTarget 6 = .ok (.getfield 23, 3) := by decide +kernel
theorem dX11_setTarget_9 : decode cX11_setTarget 9 = .ok (.iload_n 1, 1) := by decide +kernel
theorem dX11_setTarget_10 : decode cX11_setTarget 10 = .ok (.iload_n 2, 1) := by decide +kernel
theorem dX11_setTarget_11 : decode cX11_setTarget 11 = .ok (.invokevirtual 148, 3) := by decide +kernel
theorem dX11_setTarget_14 : decode cX11_setTarget 14 = .ok (.ireturn, 1) := by decide +kernel
theorem dX11_setDiscount_0 : decode cX11_setDiscount 0 = .ok (.iload_n 1, 1) := by decide +kernel
theorem dX11_setDiscount_1 : decode cX11_setDiscount 1 = .ok (.iconst 1, 1) := by decide +kernel
theorem dX11_setDiscount_2 : decode cX11_setDiscount 2 = .ok (.if_icmp .lt 23, 3) := by decide +kernel
theorem dX11_setDiscount_5 : decode cX11_setDiscount 5 = .ok (.iload_n 1, 1) := by decide +kernel
theorem dX11_setDiscount_6 : decode cX11_setDiscount 6 = .ok (.iconst 2, 1) := by decide +kernel
theorem dX11_setDiscount_7 : decode cX11_setDiscount 7 = .ok (.if_icmp .gt 18, 3) := by decide +kernel
theorem dX11_setDiscount_10 : decode cX11_setDiscount 10 = .ok (.iload_n 2, 1) := by decide +kernel
theorem dX11_setDiscount_11 : decode cX11_setDiscount 11 = .ok (.iconst 2, 1) := by decide +kernel
theorem dX11_setDiscount_12 : decode cX11_setDiscount 12 = .ok (.if_icmp .lt 13, 3) := by decide +kernel
theorem dX11_setDiscount_15 : decode cX11_setDiscount 15 = .ok (.iload_n 2, 1) := by decide +kernel
theorem dX11_setDiscount_16 : decode cX11_setDiscount 16 = .ok (.iconst 3, 1) := by decide +kernel
theorem dX11_setDiscount_17 : decode cX11_setDiscount 17 = .ok (.if_icmp .gt 8, 3) := by decide +kernel
theorem dX11_setDiscount_20 : decode cX11_setDiscount 20 = .ok (.iload_n 2, 1) := by decide +kernel
theorem dX11_setDiscount_21 : decode cX11_setDiscount 21 = .ok (.iload_n 1, 1) := by decide +kernel
theorem dX11_setDiscount_22 : decode cX11_setDiscount 22 = .ok (.if_icmp .gt 13, 3) := by decide +kernel
theorem dX11_setDiscount_25 : decode cX11_setDiscount 25 = .ok (.new 95, 3) := by decide +kernel
theorem dX11_setDiscount_28 : decode cX11_setDiscount 28 = .ok (.dup, 1) := by decide +kernel
theorem dX11_setDiscount_29 : decode cX11_setDiscount 29 = .ok (.ldc 152, 2) := by decide +kernel
theorem dX11_setDiscount_31 : decode cX11_setDiscount 31 = .ok (.invokespecial 99, 3) := by decide +kernel
theorem dX11_setDiscount_34 : decode cX11_setDiscount 34 = .ok (.athrow, 1) := by decide +kernel
theorem dX11_setDiscount_35 : decode cX11_setDiscount 35 = .ok (.aload_n 0, 1) := by decide +kernel
theorem dX11_setDiscount_36 : decode cX11_setDiscount 36 = .ok (.getfield 23, 3) := by decide +kernel
theorem dX11_setDiscount_39 : decode cX11_setDiscount 39 = .ok (.iload_n 1, 1) := by decide +kernel
theorem dX11_setDiscount_40 : decode cX11_setDiscount 40 = .ok (.iload_n 2, 1) := by decide +kernel
theorem dX11_setDiscount_41 : decode cX11_setDiscount 41 = .ok (.invokevirtual 154, 3) := by decide +kernel
theorem dX11_setDiscount_44 : decode cX11_setDiscount 44 = .ok (.ireturn, 1) := by decide +kernel
theorem dX11_setWeights_0 : decode cX11_setWeights 0 = .ok (.iload_n 1, 1) := by decide +kernel
theorem dX11_setWeights_1 : decode cX11_setWeights 1 = .ok (.ifCond .lt 17, 3) := by decide +kernel
theorem dX11_setWeights_4 : decode cX11_setWeights 4 = .ok (.iload_n 1, 1) := by decide +kernel
theorem dX11_setWeights_5 : decode cX11_setWeights 5 = .ok (.iconst 3, 1) := by decide +kernel
theorem dX11_setWeights_6 : decode cX11_setWeights 6 = .ok (.if_icmp .gt 12, 3) := by decide +kernel
theorem dX11_setWeights_9 : decode cX11_setWeights 9 = .ok (.iload_n 2, 1) := by decide +kernel
theorem dX11_setWeights_10 : decode cX11_setWeights 10 = .ok (.ifCond .lt 8, 3) := by decide +kernel
theorem dX11_setWeights_13 : decode cX11_setWeights 13 = .ok (.iload_n 2, 1) := by decide +kernel
theorem dX11_setWeights_14 : decode cX11_setWeights 14 = .ok (.iconst 3, 1) := by decide +kernel
theorem dX11_setWeights_15 : decode cX11_setWeights 15 = .ok (.if_icmp .le 13, 3) := by decide +kernel
theorem dX11_setWeights_18 : decode cX11_setWeights 18 = .ok (.new 95, 3) := by decide +kernel
theorem dX11_setWeights_21 : decode cX11_setWeights 21 = .ok (.dup, 1) := by decide +kernel
theorem dX11_setWeights_22 : decode cX11_setWeights 22 = .ok (.ldc 157, 2) := by decide +kernel
theorem dX11_setWeights_24 : decode cX11_setWeights 24 = .ok (.invokespecial 99, 3) := by decide +kernel
theorem dX11_setWeights_27 : decode cX11_setWeights 27 = .ok (.athrow, 1) := by decide +kernel
theorem dX11_setWeights_28 : decode cX11_setWeights 28 = .ok (.aload_n 0, 1) := by decide +kernel
theorem dX11_setWeights_29 : decode cX11_setWeights 29 = .ok (.getfield 23, 3) := by decide +kernel
theorem dX11_setWeights_32 : decode cX11_setWeights 32 = .ok (.iload_n 1, 1) := by decide +kernel
theorem dX11_setWeights_33 : decode cX11_setWeights 33 = .ok (.iload_n 2, 1) := by decide +kernel
theorem dX11_setWeights_34 : decode cX11_setWeights 34 = .ok (.invokevirtual 159, 3) := by decide +kernel
theorem dX11_setWeights_37 : decode cX11_setWeights 37 = .ok (.ireturn, 1) := by decide +kernel
theorem dX11_states_0 : decode cX11_states 0 = .ok (.aload_n 0, 1) := by decide +kernel
theorem dX11_states_1 : decode cX11_states 1 = .ok (.getfield 23, 3) := by decide +kernel
theorem dX11_states_4 : decode cX11_states 4 = .ok (.getfield 102, 3) := by decide +kernel
theorem dX11_states_7 : decode cX11_states 7 = .ok (.ireturn, 1) := by decide +kernel
theorem dX11_choices_0 : decode cX11_choices 0 = .ok (.aload_n 0, 1) := by decide +kernel
theorem dX11_choices_1 : decode cX11_choices 1 = .ok (.iload_n 1, 1) := by decide +kernel
theorem dX11_choices_2 : decode cX11_choices 2 = .ok (.invokevirtual 115, 3) := by decide +kernel
theorem dX11_choices_5 : decode cX11_choices 5 = .ok (.aload_n 0, 1) := by decide +kernel
theorem dX11_choices_6 : decode cX11_choices 6 = .ok (.getfield 23, 3) := by decide +kernel
theorem dX11_choices_9 : decode cX11_choices 9 = .ok (.getfield 121, 3) := by decide +kernel
theorem dX11_choices_12 : decode cX11_choices 12 = .ok (.iload_n 1, 1) := by decide +kernel
theorem dX11_choices_13 : decode cX11_choices 13 = .ok (.iaload, 1) := by decide +kernel
theorem dX11_choices_14 : decode cX11_choices 14 = .ok (.ireturn, 1) := by decide +kernel
theorem dX11_chance_0 : decode cX11_chance 0 = .ok (.aload_n 0, 1) := by decide +kernel
theorem dX11_chance_1 : decode cX11_chance 1 = .ok (.iload_n 1, 1) := by decide +kernel
theorem dX11_chance_2 : decode cX11_chance 2 = .ok (.iload_n 2, 1) := by decide +kernel
theorem dX11_chance_3 : decode cX11_chance 3 = .ok (.invokevirtual 130, 3) := by decide +kernel
theorem dX11_chance_6 : decode cX11_chance 6 = .ok (.aload_n 0, 1) := by decide +kernel
theorem dX11_chance_7 : decode cX11_chance 7 = .ok (.iload_n 3, 1) := by decide +kernel
theorem dX11_chance_8 : decode cX11_chance 8 = .ok (.invokevirtual 115, 3) := by decide +kernel
theorem dX11_chance_11 : decode cX11_chance 11 = .ok (.iload_n 1, 1) := by decide +kernel
theorem dX11_chance_12 : decode cX11_chance 12 = .ok (.iload_n 2, 1) := by decide +kernel
theorem dX11_chance_13 : decode cX11_chance 13 = .ok (.invokestatic 136, 3) := by decide +kernel
theorem dX11_chance_16 : decode cX11_chance 16 = .ok (.istore 4, 2) := by decide +kernel
theorem dX11_chance_18 : decode cX11_chance 18 = .ok (.aload_n 0, 1) := by decide +kernel
theorem dX11_chance_19 : decode cX11_chance 19 = .ok (.getfield 23, 3) := by decide +kernel
theorem dX11_chance_22 : decode cX11_chance 22 = .ok (.getfield 140, 3) := by decide +kernel
theorem dX11_chance_25 : decode cX11_chance 25 = .ok (.iload 4, 2) := by decide +kernel
theorem dX11_chance_27 : decode cX11_chance 27 = .ok (.iaload, 1) := by decide +kernel
theorem dX11_chance_28 : decode cX11_chance 28 = .ok (.istore 5, 2) := by decide +kernel
theorem dX11_chance_30 : decode cX11_chance 30 = .ok (.iload 5, 2) := by decide +kernel
theorem dX11_chance_32 : decode cX11_chance 32 = .ok (.ifCond .ne 13, 3) := by decide +kernel
theorem dX11_chance_35 : decode cX11_chance 35 = .ok (.new 162, 3) := by decide +kernel
theorem dX11_chance_38 : decode cX11_chance 38 = .ok (.dup, 1) := by decide +kernel
theorem dX11_chance_39 : decode cX11_chance 39 = .ok (.ldc 164, 2) := by decide +kernel
theorem dX11_chance_41 : decode cX11_chance 41 = .ok (.invokespecial 166, 3) := by decide +kernel
theorem dX11_chance_44 : decode cX11_chance 44 = .ok (.athrow, 1) := by decide +kernel
theorem dX11_chance_45 : decode cX11_chance 45 = .ok (.aload_n 0, 1) := by decide +kernel
theorem dX11_chance_46 : decode cX11_chance 46 = .ok (.getfield 23, 3) := by decide +kernel
theorem dX11_chance_49 : decode cX11_chance 49 = .ok (.getfield 167, 3) := by decide +kernel
theorem dX11_chance_52 : decode cX11_chance 52 = .ok (.iload 4, 2) := by decide +kernel
theorem dX11_chance_54 : decode cX11_chance 54 = .ok (.aaload, 1) := by decide +kernel
theorem dX11_chance_55 : decode cX11_chance 55 = .ok (.iload_n 3, 1) := by decide +kernel
theorem dX11_chance_56 : decode cX11_chance 56 = .ok (.iaload, 1) := by decide +kernel
theorem dX11_chance_57 : decode cX11_chance 57 = .ok (.istore 6, 2) := by decide +kernel
theorem dX11_chance_59 : decode cX11_chance 59 = .ok (.ldc2_w 171, 3) := by decide +kernel
theorem dX11_chance_62 : decode cX11_chance 62 = .ok (.iload 6, 2) := by decide +kernel
theorem dX11_chance_64 : decode cX11_chance 64 = .ok (.i2l, 1) := by decide +kernel
theorem dX11_chance_65 : decode cX11_chance 65 = .ok (.iload 5, 2) := by decide +kernel
theorem dX11_chance_67 : decode cX11_chance 67 = .ok (.i2l, 1) := by decide +kernel
theorem dX11_chance_68 : decode cX11_chance 68 = .ok (.invokestatic 173, 3) := by decide +kernel
theorem dX11_chance_71 : decode cX11_chance 71 = .ok (.lmul, 1) := by decide +kernel
theorem dX11_chance_72 : decode cX11_chance 72 = .ok (.iload 6, 2) := by decide +kernel
theorem dX11_chance_74 : decode cX11_chance 74 = .ok (.i2l, 1) := by decide +kernel
theorem dX11_chance_75 : decode cX11_chance 75 = .ok (.iload 5, 2) := by decide +kernel
theorem dX11_chance_77 : decode cX11_chance 77 = .ok (.i2l, 1) := by decide +kernel
theorem dX11_chance_78 : decode cX11_chance 78 = .ok (.invokestatic 177, 3) := by decide +kernel
theorem dX11_chance_81 : decode cX11_chance 81 = .ok (.ladd, 1) := by decide +kernel
theorem dX11_chance_82 : decode cX11_chance 82 = .ok (.l2i, 1) := by decide +kernel
theorem dX11_chance_83 : decode cX11_chance 83 = .ok (.ireturn, 1) := by decide +kernel
theorem dX11_isWhole_0 : decode cX11_isWhole 0 = .ok (.aload_n 0, 1) := by decide +kernel
theorem dX11_isWhole_1 : decode cX11_isWhole 1 = .ok (.getfield 23, 3) := by decide +kernel
theorem dX11_isWhole_4 : decode cX11_isWhole 4 = .ok (.invokevirtual 180, 3) := by decide +kernel
theorem dX11_isWhole_7 : decode cX11_isWhole 7 = .ok (.ireturn, 1) := by decide +kernel
theorem dX11_above_0 : decode cX11_above 0 = .ok (.aload_n 0, 1) := by decide +kernel
theorem dX11_above_1 : decode cX11_above 1 = .ok (.iload_n 1, 1) := by decide +kernel
theorem dX11_above_2 : decode cX11_above 2 = .ok (.iload_n 2, 1) := by decide +kernel
theorem dX11_above_3 : decode cX11_above 3 = .ok (.invokevirtual 184, 3) := by decide +kernel
theorem dX11_above_6 : decode cX11_above 6 = .ok (.aload_n 0, 1) := by decide +kernel
theorem dX11_above_7 : decode cX11_above 7 = .ok (.getfield 37, 3) := by decide +kernel
theorem dX11_above_10 : decode cX11_above 10 = .ok (.iload_n 2, 1) := by decide +kernel
theorem dX11_above_11 : decode cX11_above 11 = .ok (.invokevirtual 188, 3) := by decide +kernel
theorem dX11_above_14 : decode cX11_above 14 = .ok (.lreturn, 1) := by decide +kernel
theorem dX11_below_0 : decode cX11_below 0 = .ok (.aload_n 0, 1) := by decide +kernel
theorem dX11_below_1 : decode cX11_below 1 = .ok (.iload_n 1, 1) := by decide +kernel
theorem dX11_below_2 : decode cX11_below 2 = .ok (.iload_n 2, 1) := by decide +kernel
theorem dX11_below_3 : decode cX11_below 3 = .ok (.invokevirtual 184, 3) := by decide +kernel
theorem dX11_below_6 : decode cX11_below 6 = .ok (.aload_n 0, 1) := by decide +kernel
theorem dX11_below_7 : decode cX11_below 7 = .ok (.getfield 37, 3) := by decide +kernel
theorem dX11_below_10 : decode cX11_below 10 = .ok (.iload_n 2, 1) := by decide +kernel
theorem dX11_below_11 : decode cX11_below 11 = .ok (.invokevirtual 192, 3) := by decide +kernel
theorem dX11_below_14 : decode cX11_below 14 = .ok (.lreturn, 1) := by decide +kernel
theorem dX11_aboveByAll_0 : decode cX11_aboveByAll 0 = .ok (.aload_n 0, 1) := by decide +kernel
theorem dX11_aboveByAll_1 : decode cX11_aboveByAll 1 = .ok (.iload_n 1, 1) := by decide +kernel
theorem dX11_aboveByAll_2 : decode cX11_aboveByAll 2 = .ok (.iload_n 2, 1) := by decide +kernel
theorem dX11_aboveByAll_3 : decode cX11_aboveByAll 3 = .ok (.invokevirtual 195, 3) := by decide +kernel
theorem dX11_aboveByAll_6 : decode cX11_aboveByAll 6 = .ok (.aload_n 0, 1) := by decide +kernel
theorem dX11_aboveByAll_7 : decode cX11_aboveByAll 7 = .ok (.getfield 57, 3) := by decide +kernel
theorem dX11_aboveByAll_10 : decode cX11_aboveByAll 10 = .ok (.iload_n 1, 1) := by decide +kernel
theorem dX11_aboveByAll_11 : decode cX11_aboveByAll 11 = .ok (.invokevirtual 198, 3) := by decide +kernel
theorem dX11_aboveByAll_14 : decode cX11_aboveByAll 14 = .ok (.astore_n 3, 1) := by decide +kernel
theorem dX11_aboveByAll_15 : decode cX11_aboveByAll 15 = .ok (.aload_n 3, 1) := by decide +kernel
theorem dX11_aboveByAll_16 : decode cX11_aboveByAll 16 = .ok (.getfield 202, 3) := by decide +kernel
theorem dX11_aboveByAll_19 : decode cX11_aboveByAll 19 = .ok (.iload_n 2, 1) := by decide +kernel
theorem dX11_aboveByAll_20 : decode cX11_aboveByAll 20 = .ok (.laload, 1) := by decide +kernel
theorem dX11_aboveByAll_21 : decode cX11_aboveByAll 21 = .ok (.aload_n 3, 1) := by decide +kernel
theorem dX11_aboveByAll_22 : decode cX11_aboveByAll 22 = .ok (.getfield 206, 3) := by decide +kernel
theorem dX11_aboveByAll_25 : decode cX11_aboveByAll 25 = .ok (.iload_n 2, 1) := by decide +kernel
theorem dX11_aboveByAll_26 : decode cX11_aboveByAll 26 = .ok (.laload, 1) := by decide +kernel
theorem dX11_aboveByAll_27 : decode cX11_aboveByAll 27 = .ok (.invokestatic 173, 3) := by decide +kernel
theorem dX11_aboveByAll_30 : decode cX11_aboveByAll 30 = .ok (.lreturn, 1) := by decide +kernel
theorem dX11_belowByAll_0 : decode cX11_belowByAll 0 = .ok (.aload_n 0, 1) := by decide +kernel
theorem dX11_belowByAll_1 : decode cX11_belowByAll 1 = .ok (.iload_n 1, 1) := by decide +kernel
theorem dX11_belowByAll_2 : decode cX11_belowByAll 2 = .ok (.iload_n 2, 1) := by decide +kernel
theorem dX11_belowByAll_3 : decode cX11_belowByAll 3 = .ok (.invokevirtual 195, 3) := by decide +kernel
theorem dX11_belowByAll_6 : decode cX11_belowByAll 6 = .ok (.aload_n 0, 1) := by decide +kernel
theorem dX11_belowByAll_7 : decode cX11_belowByAll 7 = .ok (.getfield 57, 3) := by decide +kernel
theorem dX11_belowByAll_10 : decode cX11_belowByAll 10 = .ok (.iload_n 1, 1) := by decide +kernel
theorem dX11_belowByAll_11 : decode cX11_belowByAll 11 = .ok (.invokevirtual 198, 3) := by decide +kernel
theorem dX11_belowByAll_14 : decode cX11_belowByAll 14 = .ok (.astore_n 3, 1) := by decide +kernel
theorem dX11_belowByAll_15 : decode cX11_belowByAll 15 = .ok (.aload_n 3, 1) := by decide +kernel
theorem dX11_belowByAll_16 : decode cX11_belowByAll 16 = .ok (.getfield 202, 3) := by decide +kernel
theorem dX11_belowByAll_19 : decode cX11_belowByAll 19 = .ok (.iload_n 2, 1) := by decide +kernel
theorem dX11_belowByAll_20 : decode cX11_belowByAll 20 = .ok (.laload, 1) := by decide +kernel
theorem dX11_belowByAll_21 : decode cX11_belowByAll 21 = .ok (.aload_n 3, 1) := by decide +kernel
theorem dX11_belowByAll_22 : decode cX11_belowByAll 22 = .ok (.getfield 206, 3) := by decide +kernel
theorem dX11_belowByAll_25 : decode cX11_belowByAll 25 = .ok (.iload_n 2, 1) := by decide +kernel
theorem dX11_belowByAll_26 : decode cX11_belowByAll 26 = .ok (.laload, 1) := by decide +kernel
theorem dX11_belowByAll_27 : decode cX11_belowByAll 27 = .ok (.invokestatic 177, 3) := by decide +kernel
theorem dX11_belowByAll_30 : decode cX11_belowByAll 30 = .ok (.lreturn, 1) := by decide +kernel
theorem dX11_valueFloat_0 : decode cX11_valueFloat 0 = .ok (.aload_n 0, 1) := by decide +kernel
theorem dX11_valueFloat_1 : decode cX11_valueFloat 1 = .ok (.iload_n 1, 1) := by decide +kernel
theorem dX11_valueFloat_2 : decode cX11_valueFloat 2 = .ok (.iload_n 2, 1) := by decide +kernel
theorem dX11_valueFloat_3 : decode cX11_valueFloat 3 = .ok (.invokevirtual 184, 3) := by decide +kernel
theorem dX11_valueFloat_6 : decode cX11_valueFloat 6 = .ok (.aload_n 0, 1) := by decide +kernel
theorem dX11_valueFloat_7 : decode cX11_valueFloat 7 = .ok (.getfield 37, 3) := by decide +kernel
theorem dX11_valueFloat_10 : decode cX11_valueFloat 10 = .ok (.iload_n 2, 1) := by decide +kernel
theorem dX11_valueFloat_11 : decode cX11_valueFloat 11 = .ok (.invokevirtual 188, 3) := by decide +kernel
theorem dX11_valueFloat_14 : decode cX11_valueFloat 14 = .ok (.aload_n 0, 1) := by decide +kernel
theorem dX11_valueFloat_15 : decode cX11_valueFloat 15 = .ok (.getfield 37, 3) := by decide +kernel
theorem dX11_valueFloat_18 : decode cX11_valueFloat 18 = .ok (.iload_n 2, 1) := by decide +kernel
theorem dX11_valueFloat_19 : decode cX11_valueFloat 19 = .ok (.invokevirtual 192, 3) := by decide +kernel
theorem dX11_valueFloat_22 : decode cX11_valueFloat 22 = .ok (.invokestatic 209, 3) := by decide +kernel
theorem dX11_valueFloat_25 : decode cX11_valueFloat 25 = .ok (.freturn, 1) := by decide +kernel
theorem dX11_bound_0 : decode cX11_bound 0 = .ok (.aload_n 0, 1) := by decide +kernel
theorem dX11_bound_1 : decode cX11_bound 1 = .ok (.iload_n 1, 1) := by decide +kernel
theorem dX11_bound_2 : decode cX11_bound 2 = .ok (.invokevirtual 115, 3) := by decide +kernel
theorem dX11_bound_5 : decode cX11_bound 5 = .ok (.iload_n 2, 1) := by decide +kernel
theorem dX11_bound_6 : decode cX11_bound 6 = .ok (.ifCond .lt 9, 3) := by decide +kernel
theorem dX11_bound_9 : decode cX11_bound 9 = .ok (.iload_n 2, 1) := by decide +kernel
theorem dX11_bound_10 : decode cX11_bound 10 = .ok (.bipush 60, 2) := by decide +kernel
theorem dX11_bound_12 : decode cX11_bound 12 = .ok (.if_icmp .le 13, 3) := by decide +kernel
theorem dX11_bound_15 : decode cX11_bound 15 = .ok (.new 95, 3) := by decide +kernel
theorem dX11_bound_18 : decode cX11_bound 18 = .ok (.dup, 1) := by decide +kernel
theorem dX11_bound_19 : decode cX11_bound 19 = .ok (.ldc 220, 2) := by decide +kernel
theorem dX11_bound_21 : decode cX11_bound 21 = .ok (.invokespecial 99, 3) := by decide +kernel
theorem dX11_bound_24 : decode cX11_bound 24 = .ok (.athrow, 1) := by decide +kernel
theorem dX11_bound_25 : decode cX11_bound 25 = .ok (.aload_n 0, 1) := by decide +kernel
theorem dX11_bound_26 : decode cX11_bound 26 = .ok (.invokevirtual 222, 3) := by decide +kernel
theorem dX11_bound_29 : decode cX11_bound 29 = .ok (.aload_n 0, 1) := by decide +kernel
theorem dX11_bound_30 : decode cX11_bound 30 = .ok (.getfield 33, 3) := by decide +kernel
theorem dX11_bound_33 : decode cX11_bound 33 = .ok (.iload_n 1, 1) := by decide +kernel
theorem dX11_bound_34 : decode cX11_bound 34 = .ok (.iload_n 2, 1) := by decide +kernel
theorem dX11_bound_35 : decode cX11_bound 35 = .ok (.invokevirtual 225, 3) := by decide +kernel
theorem dX11_bound_38 : decode cX11_bound 38 = .ok (.dreturn, 1) := by decide +kernel
theorem dX11_isZero_0 : decode cX11_isZero 0 = .ok (.aload_n 0, 1) := by decide +kernel
theorem dX11_isZero_1 : decode cX11_isZero 1 = .ok (.iload_n 1, 1) := by decide +kernel
theorem dX11_isZero_2 : decode cX11_isZero 2 = .ok (.invokevirtual 229, 3) := by decide +kernel
theorem dX11_isZero_5 : decode cX11_isZero 5 = .ok (.aload_n 0, 1) := by decide +kernel
theorem dX11_isZero_6 : decode cX11_isZero 6 = .ok (.getfield 33, 3) := by decide +kernel
theorem dX11_isZero_9 : decode cX11_isZero 9 = .ok (.invokevirtual 232, 3) := by decide +kernel
theorem dX11_isZero_12 : decode cX11_isZero 12 = .ok (.iload_n 1, 1) := by decide +kernel
theorem dX11_isZero_13 : decode cX11_isZero 13 = .ok (.invokestatic 236, 3) := by decide +kernel
theorem dX11_isZero_16 : decode cX11_isZero 16 = .ok (.ifCond .ne 7, 3) := by decide +kernel
theorem dX11_isZero_19 : decode cX11_isZero 19 = .ok (.iconst 1, 1) := by decide +kernel
theorem dX11_isZero_20 : decode cX11_isZero 20 = .ok (.goto 4, 3) := by decide +kernel
theorem dX11_isZero_23 : decode cX11_isZero 23 = .ok (.iconst 0, 1) := by decide +kernel
theorem dX11_isZero_24 : decode cX11_isZero 24 = .ok (.ireturn, 1) := by decide +kernel
theorem dX11_isOne_0 : decode cX11_isOne 0 = .ok (.aload_n 0, 1) := by decide +kernel
theorem dX11_isOne_1 : decode cX11_isOne 1 = .ok (.iload_n 1, 1) := by decide +kernel
theorem dX11_isOne_2 : decode cX11_isOne 2 = .ok (.invokevirtual 229, 3) := by decide +kernel
theorem dX11_isOne_5 : decode cX11_isOne 5 = .ok (.aload_n 0, 1) := by decide +kernel
theorem dX11_isOne_6 : decode cX11_isOne 6 = .ok (.getfield 33, 3) := by decide +kernel
theorem dX11_isOne_9 : decode cX11_isOne 9 = .ok (.invokevirtual 240, 3) := by decide +kernel
theorem dX11_isOne_12 : decode cX11_isOne 12 = .ok (.iload_n 1, 1) := by decide +kernel
theorem dX11_isOne_13 : decode cX11_isOne 13 = .ok (.invokestatic 236, 3) := by decide +kernel
theorem dX11_isOne_16 : decode cX11_isOne 16 = .ok (.ireturn, 1) := by decide +kernel
theorem dX11_solve_0 : decode cX11_solve 0 = .ok (.iload_n 1, 1) := by decide +kernel
theorem dX11_solve_1 : decode cX11_solve 1 = .ok (.invokestatic 243, 3) := by decide +kernel
theorem dX11_solve_4 : decode cX11_solve 4 = .ok (.aload_n 0, 1) := by decide +kernel
theorem dX11_solve_5 : decode cX11_solve 5 = .ok (.invokevirtual 222, 3) := by decide +kernel
theorem dX11_solve_8 : decode cX11_solve 8 = .ok (.aload_n 0, 1) := by decide +kernel
theorem dX11_solve_9 : decode cX11_solve 9 = .ok (.getfield 66, 3) := by decide +kernel
theorem dX11_solve_12 : decode cX11_solve 12 = .ok (.iload_n 1, 1) := by decide +kernel
theorem dX11_solve_13 : decode cX11_solve 13 = .ok (.aload_n 0, 1) := by decide +kernel
theorem dX11_solve_14 : decode cX11_solve 14 = .ok (.getfield 29, 3) := by decide +kernel
theorem dX11_solve_17 : decode cX11_solve 17 = .ok (.invokevirtual 246, 3) := by decide +kernel
theorem dX11_solve_20 : decode cX11_solve 20 = .ok (.ireturn, 1) := by decide +kernel
theorem dX11_tell_0 : decode cX11_tell 0 = .ok (.aload_n 0, 1) := by decide +kernel
theorem dX11_tell_1 : decode cX11_tell 1 = .ok (.iload_n 1, 1) := by decide +kernel
theorem dX11_tell_2 : decode cX11_tell 2 = .ok (.iload_n 2, 1) := by decide +kernel
theorem dX11_tell_3 : decode cX11_tell 3 = .ok (.invokevirtual 130, 3) := by decide +kernel
theorem dX11_tell_6 : decode cX11_tell 6 = .ok (.aload_n 0, 1) := by decide +kernel
theorem dX11_tell_7 : decode cX11_tell 7 = .ok (.getfield 29, 3) := by decide +kernel
theorem dX11_tell_10 : decode cX11_tell 10 = .ok (.iload_n 1, 1) := by decide +kernel
theorem dX11_tell_11 : decode cX11_tell 11 = .ok (.iaload, 1) := by decide +kernel
theorem dX11_tell_12 : decode cX11_tell 12 = .ok (.istore_n 3, 1) := by decide +kernel
theorem dX11_tell_13 : decode cX11_tell 13 = .ok (.aload_n 0, 1) := by decide +kernel
theorem dX11_tell_14 : decode cX11_tell 14 = .ok (.getfield 29, 3) := by decide +kernel
theorem dX11_tell_17 : decode cX11_tell 17 = .ok (.iload_n 1, 1) := by decide +kernel
theorem dX11_tell_18 : decode cX11_tell 18 = .ok (.iload_n 2, 1) := by decide +kernel
theorem dX11_tell_19 : decode cX11_tell 19 = .ok (.iastore, 1) := by decide +kernel
theorem dX11_tell_20 : decode cX11_tell 20 = .ok (.iload_n 3, 1) := by decide +kernel
theorem dX11_tell_21 : decode cX11_tell 21 = .ok (.ireturn, 1) := by decide +kernel
theorem dX11_told_0 : decode cX11_told 0 = .ok (.aload_n 0, 1) := by decide +kernel
theorem dX11_told_1 : decode cX11_told 1 = .ok (.iload_n 1, 1) := by decide +kernel
theorem dX11_told_2 : decode cX11_told 2 = .ok (.invokevirtual 115, 3) := by decide +kernel
theorem dX11_told_5 : decode cX11_told 5 = .ok (.aload_n 0, 1) := by decide +kernel
theorem dX11_told_6 : decode cX11_told 6 = .ok (.getfield 29, 3) := by decide +kernel
theorem dX11_told_9 : decode cX11_told 9 = .ok (.iload_n 1, 1) := by decide +kernel
theorem dX11_told_10 : decode cX11_told 10 = .ok (.iaload, 1) := by decide +kernel
theorem dX11_told_11 : decode cX11_told 11 = .ok (.ireturn, 1) := by decide +kernel
theorem dX11_chainAbove_0 : decode cX11_chainAbove 0 = .ok (.aload_n 0, 1) := by decide +kernel
theorem dX11_chainAbove_1 : decode cX11_chainAbove 1 = .ok (.iload_n 1, 1) := by decide +kernel
theorem dX11_chainAbove_2 : decode cX11_chainAbove 2 = .ok (.iload_n 2, 1) := by decide +kernel
theorem dX11_chainAbove_3 : decode cX11_chainAbove 3 = .ok (.invokevirtual 250, 3) := by decide +kernel
theorem dX11_chainAbove_6 : decode cX11_chainAbove 6 = .ok (.aload_n 0, 1) := by decide +kernel
theorem dX11_chainAbove_7 : decode cX11_chainAbove 7 = .ok (.getfield 37, 3) := by decide +kernel
theorem dX11_chainAbove_10 : decode cX11_chainAbove 10 = .ok (.iload_n 2, 1) := by decide +kernel
theorem dX11_chainAbove_11 : decode cX11_chainAbove 11 = .ok (.invokevirtual 188, 3) := by decide +kernel
theorem dX11_chainAbove_14 : decode cX11_chainAbove 14 = .ok (.lreturn, 1) := by decide +kernel
theorem dX11_chainBelow_0 : decode cX11_chainBelow 0 = .ok (.aload_n 0, 1) := by decide +kernel
theorem dX11_chainBelow_1 : decode cX11_chainBelow 1 = .ok (.iload_n 1, 1) := by decide +kernel
theorem dX11_chainBelow_2 : decode cX11_chainBelow 2 = .ok (.iload_n 2, 1) := by decide +kernel
theorem dX11_chainBelow_3 : decode cX11_chainBelow 3 = .ok (.invokevirtual 250, 3) := by decide +kernel
theorem dX11_chainBelow_6 : decode cX11_chainBelow 6 = .ok (.aload_n 0, 1) := by decide +kernel
theorem dX11_chainBelow_7 : decode cX11_chainBelow 7 = .ok (.getfield 37, 3) := by decide +kernel
theorem dX11_chainBelow_10 : decode cX11_chainBelow 10 = .ok (.iload_n 2, 1) := by decide +kernel
theorem dX11_chainBelow_11 : decode cX11_chainBelow 11 = .ok (.invokevirtual 192, 3) := by decide +kernel
theorem dX11_chainBelow_14 : decode cX11_chainBelow 14 = .ok (.lreturn, 1) := by decide +kernel
theorem dX11_responseAbove_0 : decode cX11_responseAbove 0 = .ok (.aload_n 0, 1) := by decide +kernel
theorem dX11_responseAbove_1 : decode cX11_responseAbove 1 = .ok (.iload_n 1, 1) := by decide +kernel
theorem dX11_responseAbove_2 : decode cX11_responseAbove 2 = .ok (.iload_n 2, 1) := by decide +kernel
theorem dX11_responseAbove_3 : decode cX11_responseAbove 3 = .ok (.iload_n 3, 1) := by decide +kernel
theorem dX11_responseAbove_4 : decode cX11_responseAbove 4 = .ok (.invokevirtual 253, 3) := by decide +kernel
theorem dX11_responseAbove_7 : decode cX11_responseAbove 7 = .ok (.aload_n 0, 1) := by decide +kernel
theorem dX11_responseAbove_8 : decode cX11_responseAbove 8 = .ok (.getfield 37, 3) := by decide +kernel
theorem dX11_responseAbove_11 : decode cX11_responseAbove 11 = .ok (.iload_n 3, 1) := by decide +kernel
theorem dX11_responseAbove_12 : decode cX11_responseAbove 12 = .ok (.invokevirtual 188, 3) := by decide +kernel
theorem dX11_responseAbove_15 : decode cX11_responseAbove 15 = .ok (.lreturn, 1) := by decide +kernel
theorem dX11_responseBelow_0 : decode cX11_responseBelow 0 = .ok (.aload_n 0, 1) := by decide +kernel
theorem dX11_responseBelow_1 : decode cX11_responseBelow 1 = .ok (.iload_n 1, 1) := by decide +kernel
theorem dX11_responseBelow_2 : decode cX11_responseBelow 2 = .ok (.iload_n 2, 1) := by decide +kernel
theorem dX11_responseBelow_3 : decode cX11_responseBelow 3 = .ok (.iload_n 3, 1) := by decide +kernel
theorem dX11_responseBelow_4 : decode cX11_responseBelow 4 = .ok (.invokevirtual 253, 3) := by decide +kernel
theorem dX11_responseBelow_7 : decode cX11_responseBelow 7 = .ok (.aload_n 0, 1) := by decide +kernel
theorem dX11_responseBelow_8 : decode cX11_responseBelow 8 = .ok (.getfield 37, 3) := by decide +kernel
theorem dX11_responseBelow_11 : decode cX11_responseBelow 11 = .ok (.iload_n 3, 1) := by decide +kernel
theorem dX11_responseBelow_12 : decode cX11_responseBelow 12 = .ok (.invokevirtual 192, 3) := by decide +kernel
theorem dX11_responseBelow_15 : decode cX11_responseBelow 15 = .ok (.lreturn, 1) := by decide +kernel
theorem dX11_closedOf_0 : decode cX11_closedOf 0 = .ok (.aload_n 0, 1) := by decide +kernel
theorem dX11_closedOf_1 : decode cX11_closedOf 1 = .ok (.iload_n 1, 1) := by decide +kernel
theorem dX11_closedOf_2 : decode cX11_closedOf 2 = .ok (.invokevirtual 229, 3) := by decide +kernel
theorem dX11_closedOf_5 : decode cX11_closedOf 5 = .ok (.aload_n 0, 1) := by decide +kernel
theorem dX11_closedOf_6 : decode cX11_closedOf 6 = .ok (.getfield 33, 3) := by decide +kernel
theorem dX11_closedOf_9 : decode cX11_closedOf 9 = .ok (.aload_n 0, 1) := by decide +kernel
theorem dX11_closedOf_10 : decode cX11_closedOf 10 = .ok (.getfield 29, 3) := by decide +kernel
theorem dX11_closedOf_13 : decode cX11_closedOf 13 = .ok (.invokevirtual 257, 3) := by decide +kernel
theorem dX11_closedOf_16 : decode cX11_closedOf 16 = .ok (.aload_n 0, 1) := by decide +kernel
theorem dX11_closedOf_17 : decode cX11_closedOf 17 = .ok (.getfield 33, 3) := by decide +kernel
theorem dX11_closedOf_20 : decode cX11_closedOf 20 = .ok (.iload_n 1, 1) := by decide +kernel
theorem dX11_closedOf_21 : decode cX11_closedOf 21 = .ok (.invokevirtual 261, 3) := by decide +kernel
theorem dX11_closedOf_24 : decode cX11_closedOf 24 = .ok (.invokestatic 265, 3) := by decide +kernel
theorem dX11_closedOf_27 : decode cX11_closedOf 27 = .ok (.ireturn, 1) := by decide +kernel
theorem dX11_endOf_0 : decode cX11_endOf 0 = .ok (.aload_n 0, 1) := by decide +kernel
theorem dX11_endOf_1 : decode cX11_endOf 1 = .ok (.iload_n 1, 1) := by decide +kernel
theorem dX11_endOf_2 : decode cX11_endOf 2 = .ok (.invokevirtual 229, 3) := by decide +kernel
theorem dX11_endOf_5 : decode cX11_endOf 5 = .ok (.aload_n 0, 1) := by decide +kernel
theorem dX11_endOf_6 : decode cX11_endOf 6 = .ok (.getfield 33, 3) := by decide +kernel
theorem dX11_endOf_9 : decode cX11_endOf 9 = .ok (.iload_n 1, 1) := by decide +kernel
theorem dX11_endOf_10 : decode cX11_endOf 10 = .ok (.invokevirtual 268, 3) := by decide +kernel
theorem dX11_endOf_13 : decode cX11_endOf 13 = .ok (.invokestatic 265, 3) := by decide +kernel
theorem dX11_endOf_16 : decode cX11_endOf 16 = .ok (.ireturn, 1) := by decide +kernel
theorem dX11_classOf_0 : decode cX11_classOf 0 = .ok (.aload_n 0, 1) := by decide +kernel
theorem dX11_classOf_1 : decode cX11_classOf 1 = .ok (.iload_n 1, 1) := by decide +kernel
theorem dX11_classOf_2 : decode cX11_classOf 2 = .ok (.invokevirtual 229, 3) := by decide +kernel
theorem dX11_classOf_5 : decode cX11_classOf 5 = .ok (.aload_n 0, 1) := by decide +kernel
theorem dX11_classOf_6 : decode cX11_classOf 6 = .ok (.getfield 73, 3) := by decide +kernel
theorem dX11_classOf_9 : decode cX11_classOf 9 = .ok (.invokevirtual 271, 3) := by decide +kernel
theorem dX11_classOf_12 : decode cX11_classOf 12 = .ok (.aload_n 0, 1) := by decide +kernel
theorem dX11_classOf_13 : decode cX11_classOf 13 = .ok (.getfield 73, 3) := by decide +kernel
theorem dX11_classOf_16 : decode cX11_classOf 16 = .ok (.getfield 274, 3) := by decide +kernel
theorem dX11_classOf_19 : decode cX11_classOf 19 = .ok (.iload_n 1, 1) := by decide +kernel
theorem dX11_classOf_20 : decode cX11_classOf 20 = .ok (.iaload, 1) := by decide +kernel
theorem dX11_classOf_21 : decode cX11_classOf 21 = .ok (.ireturn, 1) := by decide +kernel
theorem dX11_classes_0 : decode cX11_classes 0 = .ok (.aload_n 0, 1) := by decide +kernel
theorem dX11_classes_1 : decode cX11_classes 1 = .ok (.invokevirtual 222, 3) := by decide +kernel
theorem dX11_classes_4 : decode cX11_classes 4 = .ok (.aload_n 0, 1) := by decide +kernel
theorem dX11_classes_5 : decode cX11_classes 5 = .ok (.getfield 73, 3) := by decide +kernel
theorem dX11_classes_8 : decode cX11_classes 8 = .ok (.invokevirtual 271, 3) := by decide +kernel
theorem dX11_classes_11 : decode cX11_classes 11 = .ok (.aload_n 0, 1) := by decide +kernel
theorem dX11_classes_12 : decode cX11_classes 12 = .ok (.getfield 73, 3) := by decide +kernel
theorem dX11_classes_15 : decode cX11_classes 15 = .ok (.invokevirtual 277, 3) := by decide +kernel
theorem dX11_classes_18 : decode cX11_classes 18 = .ok (.ireturn, 1) := by decide +kernel
theorem dX11_traceLength_0 : decode cX11_traceLength 0 = .ok (.aload_n 0, 1) := by decide +kernel
theorem dX11_traceLength_1 : decode cX11_traceLength 1 = .ok (.iload_n 1, 1) := by decide +kernel
theorem dX11_traceLength_2 : decode cX11_traceLength 2 = .ok (.invokevirtual 280, 3) := by decide +kernel
theorem dX11_traceLength_5 : decode cX11_traceLength 5 = .ok (.aload_n 0, 1) := by decide +kernel
theorem dX11_traceLength_6 : decode cX11_traceLength 6 = .ok (.getfield 80, 3) := by decide +kernel
theorem dX11_traceLength_9 : decode cX11_traceLength 9 = .ok (.getfield 283, 3) := by decide +kernel
theorem dX11_traceLength_12 : decode cX11_traceLength 12 = .ok (.iload_n 1, 1) := by decide +kernel
theorem dX11_traceLength_13 : decode cX11_traceLength 13 = .ok (.iaload, 1) := by decide +kernel
theorem dX11_traceLength_14 : decode cX11_traceLength 14 = .ok (.ireturn, 1) := by decide +kernel
theorem dX11_traceAt_0 : decode cX11_traceAt 0 = .ok (.aload_n 0, 1) := by decide +kernel
theorem dX11_traceAt_1 : decode cX11_traceAt 1 = .ok (.iload_n 1, 1) := by decide +kernel
theorem dX11_traceAt_2 : decode cX11_traceAt 2 = .ok (.invokevirtual 280, 3) := by decide +kernel
theorem dX11_traceAt_5 : decode cX11_traceAt 5 = .ok (.iload_n 2, 1) := by decide +kernel
theorem dX11_traceAt_6 : decode cX11_traceAt 6 = .ok (.ifCond .lt 16, 3) := by decide +kernel
theorem dX11_traceAt_9 : decode cX11_traceAt 9 = .ok (.iload_n 2, 1) := by decide +kernel
theorem dX11_traceAt_10 : decode cX11_traceAt 10 = .ok (.aload_n 0, 1) := by decide +kernel
theorem dX11_traceAt_11 : decode cX11_traceAt 11 = .ok (.getfield 80, 3) := by decide +kernel
theorem dX11_traceAt_14 : decode cX11_traceAt 14 = .ok (.getfield 283, 3) := by decide +kernel
theorem dX11_traceAt_17 : decode cX11_traceAt 17 = .ok (.iload_n 1, 1) := by decide +kernel
theorem dX11_traceAt_18 : decode cX11_traceAt 18 = .ok (.iaload, 1) := by decide +kernel
theorem dX11_traceAt_19 : decode cX11_traceAt 19 = .ok (.if_icmp .lt 14, 3) := by decide +kernel
theorem dX11_traceAt_22 : decode cX11_traceAt 22 = .ok (.new 286, 3) := by decide +kernel
theorem dX11_traceAt_25 : decode cX11_traceAt 25 = .ok (.dup, 1) := by decide +kernel
theorem dX11_traceAt_26 : decode cX11_traceAt 26 = .ok (.ldc_w 288, 3) := by decide +kernel
theorem dX11_traceAt_29 : decode cX11_traceAt 29 = .ok (.invokespecial 290, 3) := by decide +kernel
theorem dX11_traceAt_32 : decode cX11_traceAt 32 = .ok (.athrow, 1) := by decide +kernel
theorem dX11_traceAt_33 : decode cX11_traceAt 33 = .ok (.aload_n 0, 1) := by decide +kernel
theorem dX11_traceAt_34 : decode cX11_traceAt 34 = .ok (.getfield 80, 3) := by decide +kernel
theorem dX11_traceAt_37 : decode cX11_traceAt 37 = .ok (.iload_n 1, 1) := by decide +kernel
theorem dX11_traceAt_38 : decode cX11_traceAt 38 = .ok (.iload_n 2, 1) := by decide +kernel
theorem dX11_traceAt_39 : decode cX11_traceAt 39 = .ok (.aload_n 0, 1) := by decide +kernel
theorem dX11_traceAt_40 : decode cX11_traceAt 40 = .ok (.getfield 29, 3) := by decide +kernel
theorem dX11_traceAt_43 : decode cX11_traceAt 43 = .ok (.invokevirtual 291, 3) := by decide +kernel
theorem dX11_traceAt_46 : decode cX11_traceAt 46 = .ok (.ireturn, 1) := by decide +kernel
theorem dX11_traceAbove_0 : decode cX11_traceAbove 0 = .ok (.aload_n 0, 1) := by decide +kernel
theorem dX11_traceAbove_1 : decode cX11_traceAbove 1 = .ok (.iload_n 1, 1) := by decide +kernel
theorem dX11_traceAbove_2 : decode cX11_traceAbove 2 = .ok (.invokevirtual 280, 3) := by decide +kernel
theorem dX11_traceAbove_5 : decode cX11_traceAbove 5 = .ok (.aload_n 0, 1) := by decide +kernel
theorem dX11_traceAbove_6 : decode cX11_traceAbove 6 = .ok (.getfield 80, 3) := by decide +kernel
theorem dX11_traceAbove_9 : decode cX11_traceAbove 9 = .ok (.getfield 295, 3) := by decide +kernel
theorem dX11_traceAbove_12 : decode cX11_traceAbove 12 = .ok (.getfield 202, 3) := by decide +kernel
theorem dX11_traceAbove_15 : decode cX11_traceAbove 15 = .ok (.iload_n 1, 1) := by decide +kernel
theorem dX11_traceAbove_16 : decode cX11_traceAbove 16 = .ok (.laload, 1) := by decide +kernel
theorem dX11_traceAbove_17 : decode cX11_traceAbove 17 = .ok (.aload_n 0, 1) := by decide +kernel
theorem dX11_traceAbove_18 : decode cX11_traceAbove 18 = .ok (.getfield 80, 3) := by decide +kernel
theorem dX11_traceAbove_21 : decode cX11_traceAbove 21 = .ok (.getfield 295, 3) := by decide +kernel
theorem dX11_traceAbove_24 : decode cX11_traceAbove 24 = .ok (.getfield 206, 3) := by decide +kernel
theorem dX11_traceAbove_27 : decode cX11_traceAbove 27 = .ok (.iload_n 1, 1) := by decide +kernel
theorem dX11_traceAbove_28 : decode cX11_traceAbove 28 = .ok (.laload, 1) := by decide +kernel
theorem dX11_traceAbove_29 : decode cX11_traceAbove 29 = .ok (.invokestatic 173, 3) := by decide +kernel
theorem dX11_traceAbove_32 : decode cX11_traceAbove 32 = .ok (.lreturn, 1) := by decide +kernel
theorem dX11_traceBelow_0 : decode cX11_traceBelow 0 = .ok (.aload_n 0, 1) := by decide +kernel
theorem dX11_traceBelow_1 : decode cX11_traceBelow 1 = .ok (.iload_n 1, 1) := by decide +kernel
theorem dX11_traceBelow_2 : decode cX11_traceBelow 2 = .ok (.invokevirtual 280, 3) := by decide +kernel
theorem dX11_traceBelow_5 : decode cX11_traceBelow 5 = .ok (.aload_n 0, 1) := by decide +kernel
theorem dX11_traceBelow_6 : decode cX11_traceBelow 6 = .ok (.getfield 80, 3) := by decide +kernel
theorem dX11_traceBelow_9 : decode cX11_traceBelow 9 = .ok (.getfield 295, 3) := by decide +kernel
theorem dX11_traceBelow_12 : decode cX11_traceBelow 12 = .ok (.getfield 202, 3) := by decide +kernel
theorem dX11_traceBelow_15 : decode cX11_traceBelow 15 = .ok (.iload_n 1, 1) := by decide +kernel
theorem dX11_traceBelow_16 : decode cX11_traceBelow 16 = .ok (.laload, 1) := by decide +kernel
theorem dX11_traceBelow_17 : decode cX11_traceBelow 17 = .ok (.aload_n 0, 1) := by decide +kernel
theorem dX11_traceBelow_18 : decode cX11_traceBelow 18 = .ok (.getfield 80, 3) := by decide +kernel
theorem dX11_traceBelow_21 : decode cX11_traceBelow 21 = .ok (.getfield 295, 3) := by decide +kernel
theorem dX11_traceBelow_24 : decode cX11_traceBelow 24 = .ok (.getfield 206, 3) := by decide +kernel
theorem dX11_traceBelow_27 : decode cX11_traceBelow 27 = .ok (.iload_n 1, 1) := by decide +kernel
theorem dX11_traceBelow_28 : decode cX11_traceBelow 28 = .ok (.laload, 1) := by decide +kernel
theorem dX11_traceBelow_29 : decode cX11_traceBelow 29 = .ok (.invokestatic 177, 3) := by decide +kernel
theorem dX11_traceBelow_32 : decode cX11_traceBelow 32 = .ok (.lreturn, 1) := by decide +kernel
theorem dX11_isConsistent_0 : decode cX11_isConsistent 0 = .ok (.aload_n 0, 1) := by decide +kernel
theorem dX11_isConsistent_1 : decode cX11_isConsistent 1 = .ok (.getfield 23, 3) := by decide +kernel
theorem dX11_isConsistent_4 : decode cX11_isConsistent 4 = .ok (.invokevirtual 180, 3) := by decide +kernel
theorem dX11_isConsistent_7 : decode cX11_isConsistent 7 = .ok (.ifCond .ne 5, 3) := by decide +kernel
theorem dX11_isConsistent_10 : decode cX11_isConsistent 10 = .ok (.iconst 1, 1) := by decide +kernel
theorem dX11_isConsistent_11 : decode cX11_isConsistent 11 = .ok (.ireturn, 1) := by decide +kernel
theorem dX11_isConsistent_12 : decode cX11_isConsistent 12 = .ok (.aload_n 0, 1) := by decide +kernel
theorem dX11_isConsistent_13 : decode cX11_isConsistent 13 = .ok (.getfield 73, 3) := by decide +kernel
theorem dX11_isConsistent_16 : decode cX11_isConsistent 16 = .ok (.invokevirtual 271, 3) := by decide +kernel
theorem dX11_isConsistent_19 : decode cX11_isConsistent 19 = .ok (.aload_n 0, 1) := by decide +kernel
theorem dX11_isConsistent_20 : decode cX11_isConsistent 20 = .ok (.bipush 114, 2) := by decide +kernel
theorem dX11_isConsistent_22 : decode cX11_isConsistent 22 = .ok (.invokevirtual 300, 3) := by decide +kernel
theorem dX11_isConsistent_25 : decode cX11_isConsistent 25 = .ok (.ifCond .eq 34, 3) := by decide +kernel
theorem dX11_isConsistent_28 : decode cX11_isConsistent 28 = .ok (.aload_n 0, 1) := by decide +kernel
theorem dX11_isConsistent_29 : decode cX11_isConsistent 29 = .ok (.bipush 102, 2) := by decide +kernel
theorem dX11_isConsistent_31 : decode cX11_isConsistent 31 = .ok (.invokevirtual 300, 3) := by decide +kernel
theorem dX11_isConsistent_34 : decode cX11_isConsistent 34 = .ok (.ifCond .eq 25, 3) := by decide +kernel
theorem dX11_isConsistent_37 : decode cX11_isConsistent 37 = .ok (.aload_n 0, 1) := by decide +kernel
theorem dX11_isConsistent_38 : decode cX11_isConsistent 38 = .ok (.bipush 115, 2) := by decide +kernel
theorem dX11_isConsistent_40 : decode cX11_isConsistent 40 = .ok (.invokevirtual 300, 3) := by decide +kernel
theorem dX11_isConsistent_43 : decode cX11_isConsistent 43 = .ok (.ifCond .eq 16, 3) := by decide +kernel
theorem dX11_isConsistent_46 : decode cX11_isConsistent 46 = .ok (.aload_n 0, 1) := by decide +kernel
theorem dX11_isConsistent_47 : decode cX11_isConsistent 47 = .ok (.bipush 119, 2) := by decide +kernel
theorem dX11_isConsistent_49 : decode cX11_isConsistent 49 = .ok (.invokevirtual 300, 3) := by decide +kernel
theorem dX11_isConsistent_52 : decode cX11_isConsistent 52 = .ok (.ifCond .eq 7, 3) := by decide +kernel
theorem dX11_isConsistent_55 : decode cX11_isConsistent 55 = .ok (.iconst 1, 1) := by decide +kernel
theorem dX11_isConsistent_56 : decode cX11_isConsistent 56 = .ok (.goto 4, 3) := by decide +kernel
theorem dX11_isConsistent_59 : decode cX11_isConsistent 59 = .ok (.iconst 0, 1) := by decide +kernel
theorem dX11_isConsistent_60 : decode cX11_isConsistent 60 = .ok (.ireturn, 1) := by decide +kernel
theorem dX11_agrees_0 : decode cX11_agrees 0 = .ok (.aload_n 0, 1) := by decide +kernel
theorem dX11_agrees_1 : decode cX11_agrees 1 = .ok (.getfield 48, 3) := by decide +kernel
theorem dX11_agrees_4 : decode cX11_agrees 4 = .ok (.iload_n 1, 1) := by decide +kernel
theorem dX11_agrees_5 : decode cX11_agrees 5 = .ok (.aload_n 0, 1) := by decide +kernel
theorem dX11_agrees_6 : decode cX11_agrees 6 = .ok (.getfield 29, 3) := by decide +kernel
theorem dX11_agrees_9 : decode cX11_agrees 9 = .ok (.iconst 1, 1) := by decide +kernel
theorem dX11_agrees_10 : decode cX11_agrees 10 = .ok (.iconst 1, 1) := by decide +kernel
theorem dX11_agrees_11 : decode cX11_agrees 11 = .ok (.invokevirtual 304, 3) := by decide +kernel
theorem dX11_agrees_14 : decode cX11_agrees 14 = .ok (.aload_n 0, 1) := by decide +kernel
theorem dX11_agrees_15 : decode cX11_agrees 15 = .ok (.getfield 37, 3) := by decide +kernel
theorem dX11_agrees_18 : decode cX11_agrees 18 = .ok (.aload_n 0, 1) := by decide +kernel
theorem dX11_agrees_19 : decode cX11_agrees 19 = .ok (.getfield 87, 3) := by decide +kernel
theorem dX11_agrees_22 : decode cX11_agrees 22 = .ok (.invokevirtual 308, 3) := by decide +kernel
theorem dX11_agrees_25 : decode cX11_agrees 25 = .ok (.aload_n 0, 1) := by decide +kernel
theorem dX11_agrees_26 : decode cX11_agrees 26 = .ok (.getfield 57, 3) := by decide +kernel
theorem dX11_agrees_29 : decode cX11_agrees 29 = .ok (.iload_n 1, 1) := by decide +kernel
theorem dX11_agrees_30 : decode cX11_agrees 30 = .ok (.invokevirtual 198, 3) := by decide +kernel
theorem dX11_agrees_33 : decode cX11_agrees 33 = .ok (.astore_n 2, 1) := by decide +kernel
theorem dX11_agrees_34 : decode cX11_agrees 34 = .ok (.iconst 0, 1) := by decide +kernel
theorem dX11_agrees_35 : decode cX11_agrees 35 = .ok (.istore_n 3, 1) := by decide +kernel
theorem dX11_agrees_36 : decode cX11_agrees 36 = .ok (.iload_n 3, 1) := by decide +kernel
theorem dX11_agrees_37 : decode cX11_agrees 37 = .ok (.aload_n 0, 1) := by decide +kernel
theorem dX11_agrees_38 : decode cX11_agrees 38 = .ok (.getfield 23, 3) := by decide +kernel
theorem dX11_agrees_41 : decode cX11_agrees 41 = .ok (.getfield 102, 3) := by decide +kernel
theorem dX11_agrees_44 : decode cX11_agrees 44 = .ok (.if_icmp .ge 77, 3) := by decide +kernel
theorem dX11_agrees_47 : decode cX11_agrees 47 = .ok (.aload_n 0, 1) := by decide +kernel
theorem dX11_agrees_48 : decode cX11_agrees 48 = .ok (.getfield 87, 3) := by decide +kernel
theorem dX11_agrees_51 : decode cX11_agrees 51 = .ok (.getfield 202, 3) := by decide +kernel
theorem dX11_agrees_54 : decode cX11_agrees 54 = .ok (.iload_n 3, 1) := by decide +kernel
theorem dX11_agrees_55 : decode cX11_agrees 55 = .ok (.laload, 1) := by decide +kernel
theorem dX11_agrees_56 : decode cX11_agrees 56 = .ok (.aload_n 0, 1) := by decide +kernel
theorem dX11_agrees_57 : decode cX11_agrees 57 = .ok (.getfield 87, 3) := by decide +kernel
theorem dX11_agrees_60 : decode cX11_agrees 60 = .ok (.getfield 206, 3) := by decide +kernel
theorem dX11_agrees_63 : decode cX11_agrees 63 = .ok (.iload_n 3, 1) := by decide +kernel
theorem dX11_agrees_64 : decode cX11_agrees 64 = .ok (.laload, 1) := by decide +kernel
theorem dX11_agrees_65 : decode cX11_agrees 65 = .ok (.aload_n 2, 1) := by decide +kernel
theorem dX11_agrees_66 : decode cX11_agrees 66 = .ok (.getfield 202, 3) := by decide +kernel
theorem dX11_agrees_69 : decode cX11_agrees 69 = .ok (.iload_n 3, 1) := by decide +kernel
theorem dX11_agrees_70 : decode cX11_agrees 70 = .ok (.laload, 1) := by decide +kernel
theorem dX11_agrees_71 : decode cX11_agrees 71 = .ok (.aload_n 2, 1) := by decide +kernel
theorem dX11_agrees_72 : decode cX11_agrees 72 = .ok (.getfield 206, 3) := by decide +kernel
theorem dX11_agrees_75 : decode cX11_agrees 75 = .ok (.iload_n 3, 1) := by decide +kernel
theorem dX11_agrees_76 : decode cX11_agrees 76 = .ok (.laload, 1) := by decide +kernel
theorem dX11_agrees_77 : decode cX11_agrees 77 = .ok (.invokestatic 312, 3) := by decide +kernel
theorem dX11_agrees_80 : decode cX11_agrees 80 = .ok (.ifCond .ne 33, 3) := by decide +kernel
theorem dX11_agrees_83 : decode cX11_agrees 83 = .ok (.aload_n 0, 1) := by decide +kernel
theorem dX11_agrees_84 : decode cX11_agrees 84 = .ok (.getfield 87, 3) := by decide +kernel
theorem dX11_agrees_87 : decode cX11_agrees 87 = .ok (.getfield 202, 3) := by decide +kernel
theorem dX11_agrees_90 : decode cX11_agrees 90 = .ok (.iload_n 3, 1) := by decide +kernel
theorem dX11_agrees_91 : decode cX11_agrees 91 = .ok (.laload, 1) := by decide +kernel
theorem dX11_agrees_92 : decode cX11_agrees 92 = .ok (.aload_n 0, 1) := by decide +kernel
theorem dX11_agrees_93 : decode cX11_agrees 93 = .ok (.getfield 87, 3) := by decide +kernel
theorem dX11_agrees_96 : decode cX11_agrees 96 = .ok (.getfield 202, 3) := by decide +kernel
theorem dX11_agrees_99 : decode cX11_agrees 99 = .ok (.aload_n 0, 1) := by decide +kernel
theorem dX11_agrees_100 : decode cX11_agrees 100 = .ok (.getfield 73, 3) := by decide +kernel
theorem dX11_agrees_103 : decode cX11_agrees 103 = .ok (.getfield 274, 3) := by decide +kernel
theorem dX11_agrees_106 : decode cX11_agrees 106 = .ok (.iload_n 3, 1) := by decide +kernel
theorem dX11_agrees_107 : decode cX11_agrees 107 = .ok (.iaload, 1) := by decide +kernel
theorem dX11_agrees_108 : decode cX11_agrees 108 = .ok (.laload, 1) := by decide +kernel
theorem dX11_agrees_109 : decode cX11_agrees 109 = .ok (.lcmp, 1) := by decide +kernel
theorem dX11_agrees_110 : decode cX11_agrees 110 = .ok (.ifCond .eq 5, 3) := by decide +kernel
theorem dX11_agrees_113 : decode cX11_agrees 113 = .ok (.iconst 0, 1) := by decide +kernel
theorem dX11_agrees_114 : decode cX11_agrees 114 = .ok (.ireturn, 1) := by decide +kernel
theorem dX11_agrees_115 : decode cX11_agrees 115 = .ok (.iinc 3 1, 3) := by decide +kernel
theorem dX11_agrees_118 : decode cX11_agrees 118 = .ok (.goto (-82), 3) := by decide +kernel
theorem dX11_agrees_121 : decode cX11_agrees 121 = .ok (.iload_n 1, 1) := by decide +kernel
theorem dX11_agrees_122 : decode cX11_agrees 122 = .ok (.bipush 114, 2) := by decide +kernel
theorem dX11_agrees_124 : decode cX11_agrees 124 = .ok (.if_icmp .ne 10, 3) := by decide +kernel
theorem dX11_agrees_127 : decode cX11_agrees 127 = .ok (.aload_n 0, 1) := by decide +kernel
theorem dX11_agrees_128 : decode cX11_agrees 128 = .ok (.invokevirtual 316, 3) := by decide +kernel
theorem dX11_agrees_131 : decode cX11_agrees 131 = .ok (.ifCond .eq 7, 3) := by decide +kernel
theorem dX11_agrees_134 : decode cX11_agrees 134 = .ok (.iconst 1, 1) := by decide +kernel
theorem dX11_agrees_135 : decode cX11_agrees 135 = .ok (.goto 4, 3) := by decide +kernel
theorem dX11_agrees_138 : decode cX11_agrees 138 = .ok (.iconst 0, 1) := by decide +kernel
theorem dX11_agrees_139 : decode cX11_agrees 139 = .ok (.ireturn, 1) := by decide +kernel
theorem dX11_graphAgrees_0 : decode cX11_graphAgrees 0 = .ok (.aload_n 0, 1) := by decide +kernel
theorem dX11_graphAgrees_1 : decode cX11_graphAgrees 1 = .ok (.getfield 33, 3) := by decide +kernel
theorem dX11_graphAgrees_4 : decode cX11_graphAgrees 4 = .ok (.invokevirtual 232, 3) := by decide +kernel
theorem dX11_graphAgrees_7 : decode cX11_graphAgrees 7 = .ok (.istore_n 1, 1) := by decide +kernel
theorem dX11_graphAgrees_8 : decode cX11_graphAgrees 8 = .ok (.aload_n 0, 1) := by decide +kernel
theorem dX11_graphAgrees_9 : decode cX11_graphAgrees 9 = .ok (.getfield 33, 3) := by decide +kernel
theorem dX11_graphAgrees_12 : decode cX11_graphAgrees 12 = .ok (.invokevirtual 240, 3) := by decide +kernel
theorem dX11_graphAgrees_15 : decode cX11_graphAgrees 15 = .ok (.istore_n 2, 1) := by decide +kernel
theorem dX11_graphAgrees_16 : decode cX11_graphAgrees 16 = .ok (.iconst 0, 1) := by decide +kernel
theorem dX11_graphAgrees_17 : decode cX11_graphAgrees 17 = .ok (.istore_n 3, 1) := by decide +kernel
theorem dX11_graphAgrees_18 : decode cX11_graphAgrees 18 = .ok (.iload_n 3, 1) := by decide +kernel
theorem dX11_graphAgrees_19 : decode cX11_graphAgrees 19 = .ok (.aload_n 0, 1) := by decide +kernel
theorem dX11_graphAgrees_20 : decode cX11_graphAgrees 20 = .ok (.getfield 23, 3) := by decide +kernel
theorem dX11_graphAgrees_23 : decode cX11_graphAgrees 23 = .ok (.getfield 102, 3) := by decide +kernel
theorem dX11_graphAgrees_26 : decode cX11_graphAgrees 26 = .ok (.if_icmp .ge 73, 3) := by decide +kernel
theorem dX11_graphAgrees_29 : decode cX11_graphAgrees 29 = .ok (.iload_n 1, 1) := by decide +kernel
theorem dX11_graphAgrees_30 : decode cX11_graphAgrees 30 = .ok (.iload_n 3, 1) := by decide +kernel
theorem dX11_graphAgrees_31 : decode cX11_graphAgrees 31 = .ok (.invokestatic 236, 3) := by decide +kernel
theorem dX11_graphAgrees_34 : decode cX11_graphAgrees 34 = .ok (.aload_n 0, 1) := by decide +kernel
theorem dX11_graphAgrees_35 : decode cX11_graphAgrees 35 = .ok (.getfield 87, 3) := by decide +kernel
theorem dX11_graphAgrees_38 : decode cX11_graphAgrees 38 = .ok (.getfield 202, 3) := by decide +kernel
theorem dX11_graphAgrees_41 : decode cX11_graphAgrees 41 = .ok (.iload_n 3, 1) := by decide +kernel
theorem dX11_graphAgrees_42 : decode cX11_graphAgrees 42 = .ok (.laload, 1) := by decide +kernel
theorem dX11_graphAgrees_43 : decode cX11_graphAgrees 43 = .ok (.lconst 0, 1) := by decide +kernel
theorem dX11_graphAgrees_44 : decode cX11_graphAgrees 44 = .ok (.lcmp, 1) := by decide +kernel
theorem dX11_graphAgrees_45 : decode cX11_graphAgrees 45 = .ok (.ifCond .le 7, 3) := by decide +kernel
theorem dX11_graphAgrees_48 : decode cX11_graphAgrees 48 = .ok (.iconst 1, 1) := by decide +kernel
theorem dX11_graphAgrees_49 : decode cX11_graphAgrees 49 = .ok (.goto 4, 3) := by decide +kernel
theorem dX11_graphAgrees_52 : decode cX11_graphAgrees 52 = .ok (.iconst 0, 1) := by decide +kernel
theorem dX11_graphAgrees_53 : decode cX11_graphAgrees 53 = .ok (.if_icmp .ne 38, 3) := by decide +kernel
theorem dX11_graphAgrees_56 : decode cX11_graphAgrees 56 = .ok (.iload_n 2, 1) := by decide +kernel
theorem dX11_graphAgrees_57 : decode cX11_graphAgrees 57 = .ok (.iload_n 3, 1) := by decide +kernel
theorem dX11_graphAgrees_58 : decode cX11_graphAgrees 58 = .ok (.invokestatic 236, 3) := by decide +kernel
theorem dX11_graphAgrees_61 : decode cX11_graphAgrees 61 = .ok (.aload_n 0, 1) := by decide +kernel
theorem dX11_graphAgrees_62 : decode cX11_graphAgrees 62 = .ok (.getfield 87, 3) := by decide +kernel
theorem dX11_graphAgrees_65 : decode cX11_graphAgrees 65 = .ok (.getfield 202, 3) := by decide +kernel
theorem dX11_graphAgrees_68 : decode cX11_graphAgrees 68 = .ok (.iload_n 3, 1) := by decide +kernel
theorem dX11_graphAgrees_69 : decode cX11_graphAgrees 69 = .ok (.laload, 1) := by decide +kernel
theorem dX11_graphAgrees_70 : decode cX11_graphAgrees 70 = .ok (.aload_n 0, 1) := by decide +kernel
theorem dX11_graphAgrees_71 : decode cX11_graphAgrees 71 = .ok (.getfield 87, 3) := by decide +kernel
theorem dX11_graphAgrees_74 : decode cX11_graphAgrees 74 = .ok (.getfield 206, 3) := by decide +kernel
theorem dX11_graphAgrees_77 : decode cX11_graphAgrees 77 = .ok (.iload_n 3, 1) := by decide +kernel
theorem dX11_graphAgrees_78 : decode cX11_graphAgrees 78 = .ok (.laload, 1) := by decide +kernel
theorem dX11_graphAgrees_79 : decode cX11_graphAgrees 79 = .ok (.lcmp, 1) := by decide +kernel
theorem dX11_graphAgrees_80 : decode cX11_graphAgrees 80 = .ok (.ifCond .ne 7, 3) := by decide +kernel
theorem dX11_graphAgrees_83 : decode cX11_graphAgrees 83 = .ok (.iconst 1, 1) := by decide +kernel
theorem dX11_graphAgrees_84 : decode cX11_graphAgrees 84 = .ok (.goto 4, 3) := by decide +kernel
theorem dX11_graphAgrees_87 : decode cX11_graphAgrees 87 = .ok (.iconst 0, 1) := by decide +kernel
theorem dX11_graphAgrees_88 : decode cX11_graphAgrees 88 = .ok (.if_icmp .eq 5, 3) := by decide +kernel
theorem dX11_graphAgrees_91 : decode cX11_graphAgrees 91 = .ok (.iconst 0, 1) := by decide +kernel
theorem dX11_graphAgrees_92 : decode cX11_graphAgrees 92 = .ok (.ireturn, 1) := by decide +kernel
theorem dX11_graphAgrees_93 : decode cX11_graphAgrees 93 = .ok (.iinc 3 1, 3) := by decide +kernel
theorem dX11_graphAgrees_96 : decode cX11_graphAgrees 96 = .ok (.goto (-78), 3) := by decide +kernel
theorem dX11_graphAgrees_99 : decode cX11_graphAgrees 99 = .ok (.iconst 1, 1) := by decide +kernel
theorem dX11_graphAgrees_100 : decode cX11_graphAgrees 100 = .ok (.ireturn, 1) := by decide +kernel
theorem dX11_findValues_0 : decode cX11_findValues 0 = .ok (.aload_n 0, 1) := by decide +kernel
theorem dX11_findValues_1 : decode cX11_findValues 1 = .ok (.iload_n 1, 1) := by decide +kernel
theorem dX11_findValues_2 : decode cX11_findValues 2 = .ok (.iload_n 2, 1) := by decide +kernel
theorem dX11_findValues_3 : decode cX11_findValues 3 = .ok (.invokevirtual 195, 3) := by decide +kernel
theorem dX11_findValues_6 : decode cX11_findValues 6 = .ok (.aload_n 0, 1) := by decide +kernel
theorem dX11_findValues_7 : decode cX11_findValues 7 = .ok (.getfield 48, 3) := by decide +kernel
theorem dX11_findValues_10 : decode cX11_findValues 10 = .ok (.iload_n 1, 1) := by decide +kernel
theorem dX11_findValues_11 : decode cX11_findValues 11 = .ok (.aload_n 0, 1) := by decide +kernel
theorem dX11_findValues_12 : decode cX11_findValues 12 = .ok (.getfield 29, 3) := by decide +kernel
theorem dX11_findValues_15 : decode cX11_findValues 15 = .ok (.iconst 1, 1) := by decide +kernel
theorem dX11_findValues_16 : decode cX11_findValues 16 = .ok (.iconst 1, 1) := by decide +kernel
theorem dX11_findValues_17 : decode cX11_findValues 17 = .ok (.invokevirtual 304, 3) := by decide +kernel
theorem dX11_findValues_20 : decode cX11_findValues 20 = .ok (.return_, 1) := by decide +kernel
theorem dX11_findResponse_0 : decode cX11_findResponse 0 = .ok (.iload_n 1, 1) := by decide +kernel
theorem dX11_findResponse_1 : decode cX11_findResponse 1 = .ok (.invokestatic 91, 3) := by decide +kernel
theorem dX11_findResponse_4 : decode cX11_findResponse 4 = .ok (.aload_n 0, 1) := by decide +kernel
theorem dX11_findResponse_5 : decode cX11_findResponse 5 = .ok (.iload_n 2, 1) := by decide +kernel
theorem dX11_findResponse_6 : decode cX11_findResponse 6 = .ok (.iload_n 3, 1) := by decide +kernel
theorem dX11_findResponse_7 : decode cX11_findResponse 7 = .ok (.invokevirtual 195, 3) := by decide +kernel
theorem dX11_findResponse_10 : decode cX11_findResponse 10 = .ok (.aload_n 0, 1) := by decide +kernel
theorem dX11_findResponse_11 : decode cX11_findResponse 11 = .ok (.getfield 48, 3) := by decide +kernel
theorem dX11_findResponse_14 : decode cX11_findResponse 14 = .ok (.iload_n 2, 1) := by decide +kernel
theorem dX11_findResponse_15 : decode cX11_findResponse 15 = .ok (.aload_n 0, 1) := by decide +kernel
theorem dX11_findResponse_16 : decode cX11_findResponse 16 = .ok (.getfield 29, 3) := by decide +kernel
theorem dX11_findResponse_19 : decode cX11_findResponse 19 = .ok (.iload_n 1, 1) := by decide +kernel
theorem dX11_findResponse_20 : decode cX11_findResponse 20 = .ok (.bipush 98, 2) := by decide +kernel
theorem dX11_findResponse_22 : decode cX11_findResponse 22 = .ok (.if_icmp .ne 7, 3) := by decide +kernel
theorem dX11_findResponse_25 : decode cX11_findResponse 25 = .ok (.iconst 1, 1) := by decide +kernel
theorem dX11_findResponse_26 : decode cX11_findResponse 26 = .ok (.goto 4, 3) := by decide +kernel
theorem dX11_findResponse_29 : decode cX11_findResponse 29 = .ok (.iconst 0, 1) := by decide +kernel
theorem dX11_findResponse_30 : decode cX11_findResponse 30 = .ok (.iload_n 1, 1) := by decide +kernel
theorem dX11_findResponse_31 : decode cX11_findResponse 31 = .ok (.bipush 97, 2) := by decide +kernel
theorem dX11_findResponse_33 : decode cX11_findResponse 33 = .ok (.if_icmp .ne 7, 3) := by decide +kernel
theorem dX11_findResponse_36 : decode cX11_findResponse 36 = .ok (.iconst 1, 1) := by decide +kernel
theorem dX11_findResponse_37 : decode cX11_findResponse 37 = .ok (.goto 4, 3) := by decide +kernel
theorem dX11_findResponse_40 : decode cX11_findResponse 40 = .ok (.iconst 0, 1) := by decide +kernel
theorem dX11_findResponse_41 : decode cX11_findResponse 41 = .ok (.invokevirtual 304, 3) := by decide +kernel
theorem dX11_findResponse_44 : decode cX11_findResponse 44 = .ok (.return_, 1) := by decide +kernel
theorem dX11_followChain_0 : decode cX11_followChain 0 = .ok (.iload_n 1, 1) := by decide +kernel
theorem dX11_followChain_1 : decode cX11_followChain 1 = .ok (.bipush 109, 2) := by decide +kernel
theorem dX11_followChain_3 : decode cX11_followChain 3 = .ok (.if_icmp .eq 13, 3) := by decide +kernel
theorem dX11_followChain_6 : decode cX11_followChain 6 = .ok (.iload_n 1, 1) := by decide +kernel
theorem dX11_followChain_7 : decode cX11_followChain 7 = .ok (.bipush 112, 2) := by decide +kernel
theorem dX11_followChain_9 : decode cX11_followChain 9 = .ok (.if_icmp .eq 7, 3) := by decide +kernel
theorem dX11_followChain_12 : decode cX11_followChain 12 = .ok (.iload_n 1, 1) := by decide +kernel
theorem dX11_followChain_13 : decode cX11_followChain 13 = .ok (.invokestatic 243, 3) := by decide +kernel
theorem dX11_followChain_16 : decode cX11_followChain 16 = .ok (.aload_n 0, 1) := by decide +kernel
theorem dX11_followChain_17 : decode cX11_followChain 17 = .ok (.iload_n 2, 1) := by decide +kernel
theorem dX11_followChain_18 : decode cX11_followChain 18 = .ok (.invokevirtual 229, 3) := by decide +kernel
theorem dX11_followChain_21 : decode cX11_followChain 21 = .ok (.iload_n 1, 1) := by decide +kernel
theorem dX11_followChain_22 : decode cX11_followChain 22 = .ok (.bipush 109, 2) := by decide +kernel
theorem dX11_followChain_24 : decode cX11_followChain 24 = .ok (.if_icmp .ne 17, 3) := by decide +kernel
theorem dX11_followChain_27 : decode cX11_followChain 27 = .ok (.aload_n 0, 1) := by decide +kernel
theorem dX11_followChain_28 : decode cX11_followChain 28 = .ok (.getfield 44, 3) := by decide +kernel
theorem dX11_followChain_31 : decode cX11_followChain 31 = .ok (.aload_n 0, 1) := by decide +kernel
theorem dX11_followChain_32 : decode cX11_followChain 32 = .ok (.getfield 29, 3) := by decide +kernel
theorem dX11_followChain_35 : decode cX11_followChain 35 = .ok (.invokevirtual 319, 3) := by decide +kernel
theorem dX11_followChain_38 : decode cX11_followChain 38 = .ok (.goto 35, 3) := by decide +kernel
theorem dX11_followChain_41 : decode cX11_followChain 41 = .ok (.iload_n 1, 1) := by decide +kernel
theorem dX11_followChain_42 : decode cX11_followChain 42 = .ok (.bipush 112, 2) := by decide +kernel
theorem dX11_followChain_44 : decode cX11_followChain 44 = .ok (.if_icmp .ne 17, 3) := by decide +kernel
theorem dX11_followChain_47 : decode cX11_followChain 47 = .ok (.aload_n 0, 1) := by decide +kernel
theorem dX11_followChain_48 : decode cX11_followChain 48 = .ok (.getfield 44, 3) := by decide +kernel
theorem dX11_followChain_51 : decode cX11_followChain 51 = .ok (.aload_n 0, 1) := by decide +kernel
theorem dX11_followChain_52 : decode cX11_followChain 52 = .ok (.getfield 29, 3) := by decide +kernel
theorem dX11_followChain_55 : decode cX11_followChain 55 = .ok (.invokevirtual 322, 3) := by decide +kernel
theorem dX11_followChain_58 : decode cX11_followChain 58 = .ok (.goto 15, 3) := by decide +kernel
theorem dX11_followChain_61 : decode cX11_followChain 61 = .ok (.aload_n 0, 1) := by decide +kernel
theorem dX11_followChain_62 : decode cX11_followChain 62 = .ok (.getfield 37, 3) := by decide +kernel
theorem dX11_followChain_65 : decode cX11_followChain 65 = .ok (.iload_n 1, 1) := by decide +kernel
theorem dX11_followChain_66 : decode cX11_followChain 66 = .ok (.aload_n 0, 1) := by decide +kernel
theorem dX11_followChain_67 : decode cX11_followChain 67 = .ok (.getfield 29, 3) := by decide +kernel
theorem dX11_followChain_70 : decode cX11_followChain 70 = .ok (.invokevirtual 325, 3) := by decide +kernel
theorem dX11_followChain_73 : decode cX11_followChain 73 = .ok (.return_, 1) := by decide +kernel
theorem dX11_findTrace_0 : decode cX11_findTrace 0 = .ok (.aload_n 0, 1) := by decide +kernel
theorem dX11_findTrace_1 : decode cX11_findTrace 1 = .ok (.iload_n 1, 1) := by decide +kernel
theorem dX11_findTrace_2 : decode cX11_findTrace 2 = .ok (.invokevirtual 229, 3) := by decide +kernel
theorem dX11_findTrace_5 : decode cX11_findTrace 5 = .ok (.aload_n 0, 1) := by decide +kernel
theorem dX11_findTrace_6 : decode cX11_findTrace 6 = .ok (.getfield 80, 3) := by decide +kernel
theorem dX11_findTrace_9 : decode cX11_findTrace 9 = .ok (.aload_n 0, 1) := by decide +kernel
theorem dX11_findTrace_10 : decode cX11_findTrace 10 = .ok (.getfield 29, 3) := by decide +kernel
theorem dX11_findTrace_13 : decode cX11_findTrace 13 = .ok (.invokevirtual 329, 3) := by decide +kernel
theorem dX11_findTrace_16 : decode cX11_findTrace 16 = .ok (.aload_n 0, 1) := by decide +kernel
theorem dX11_findTrace_17 : decode cX11_findTrace 17 = .ok (.getfield 80, 3) := by decide +kernel
theorem dX11_findTrace_20 : decode cX11_findTrace 20 = .ok (.getfield 283, 3) := by decide +kernel
theorem dX11_findTrace_23 : decode cX11_findTrace 23 = .ok (.iload_n 1, 1) := by decide +kernel
theorem dX11_findTrace_24 : decode cX11_findTrace 24 = .ok (.iaload, 1) := by decide +kernel
theorem dX11_findTrace_25 : decode cX11_findTrace 25 = .ok (.ifCond .ne 14, 3) := by decide +kernel
theorem dX11_findTrace_28 : decode cX11_findTrace 28 = .ok (.new 286, 3) := by decide +kernel
theorem dX11_findTrace_31 : decode cX11_findTrace 31 = .ok (.dup, 1) := by decide +kernel
theorem dX11_findTrace_32 : decode cX11_findTrace 32 = .ok (.ldc_w 330, 3) := by decide +kernel
theorem dX11_findTrace_35 : decode cX11_findTrace 35 = .ok (.invokespecial 290, 3) := by decide +kernel
theorem dX11_findTrace_38 : decode cX11_findTrace 38 = .ok (.athrow, 1) := by decide +kernel
theorem dX11_findTrace_39 : decode cX11_findTrace 39 = .ok (.return_, 1) := by decide +kernel
theorem dX11_needSolvable_0 : decode cX11_needSolvable 0 = .ok (.iload_n 1, 1) := by decide +kernel
theorem dX11_needSolvable_1 : decode cX11_needSolvable 1 = .ok (.invokestatic 243, 3) := by decide +kernel
theorem dX11_needSolvable_4 : decode cX11_needSolvable 4 = .ok (.aload_n 0, 1) := by decide +kernel
theorem dX11_needSolvable_5 : decode cX11_needSolvable 5 = .ok (.iload_n 2, 1) := by decide +kernel
theorem dX11_needSolvable_6 : decode cX11_needSolvable 6 = .ok (.invokevirtual 229, 3) := by decide +kernel
theorem dX11_needSolvable_9 : decode cX11_needSolvable 9 = .ok (.return_, 1) := by decide +kernel
theorem dX11_needWholeFor_0 : decode cX11_needWholeFor 0 = .ok (.aload_n 0, 1) := by decide +kernel
theorem dX11_needWholeFor_1 : decode cX11_needWholeFor 1 = .ok (.iload_n 1, 1) := by decide +kernel
theorem dX11_needWholeFor_2 : decode cX11_needWholeFor 2 = .ok (.invokevirtual 115, 3) := by decide +kernel
theorem dX11_needWholeFor_5 : decode cX11_needWholeFor 5 = .ok (.aload_n 0, 1) := by decide +kernel
theorem dX11_needWholeFor_6 : decode cX11_needWholeFor 6 = .ok (.invokevirtual 222, 3) := by decide +kernel
theorem dX11_needWholeFor_9 : decode cX11_needWholeFor 9 = .ok (.return_, 1) := by decide +kernel
theorem dX11_needWhole_0 : decode cX11_needWhole 0 = .ok (.aload_n 0, 1) := by decide +kernel
theorem dX11_needWhole_1 : decode cX11_needWhole 1 = .ok (.getfield 23, 3) := by decide +kernel
theorem dX11_needWhole_4 : decode cX11_needWhole 4 = .ok (.invokevirtual 180, 3) := by decide +kernel
theorem dX11_needWhole_7 : decode cX11_needWhole 7 = .ok (.ifCond .ne 14, 3) := by decide +kernel
theorem dX11_needWhole_10 : decode cX11_needWhole 10 = .ok (.new 106, 3) := by decide +kernel
theorem dX11_needWhole_13 : decode cX11_needWhole 13 = .ok (.dup, 1) := by decide +kernel
theorem dX11_needWhole_14 : decode cX11_needWhole 14 = .ok (.ldc_w 332, 3) := by decide +kernel
theorem dX11_needWhole_17 : decode cX11_needWhole 17 = .ok (.invokespecial 110, 3) := by decide +kernel
theorem dX11_needWhole_20 : decode cX11_needWhole 20 = .ok (.athrow, 1) := by decide +kernel
theorem dX11_needWhole_21 : decode cX11_needWhole 21 = .ok (.return_, 1) := by decide +kernel
theorem dX11_needState_0 : decode cX11_needState 0 = .ok (.aload_n 0, 1) := by decide +kernel
theorem dX11_needState_1 : decode cX11_needState 1 = .ok (.getfield 23, 3) := by decide +kernel
theorem dX11_needState_4 : decode cX11_needState 4 = .ok (.iload_n 1, 1) := by decide +kernel
theorem dX11_needState_5 : decode cX11_needState 5 = .ok (.invokevirtual 334, 3) := by decide +kernel
theorem dX11_needState_8 : decode cX11_needState 8 = .ok (.ifCond .ne 14, 3) := by decide +kernel
theorem dX11_needState_11 : decode cX11_needState 11 = .ok (.new 338, 3) := by decide +kernel
theorem dX11_needState_14 : decode cX11_needState 14 = .ok (.dup, 1) := by decide +kernel
theorem dX11_needState_15 : decode cX11_needState 15 = .ok (.ldc_w 340, 3) := by decide +kernel
theorem dX11_needState_18 : decode cX11_needState 18 = .ok (.invokespecial 342, 3) := by decide +kernel
theorem dX11_needState_21 : decode cX11_needState 21 = .ok (.athrow, 1) := by decide +kernel
theorem dX11_needState_22 : decode cX11_needState 22 = .ok (.return_, 1) := by decide +kernel
theorem dX11_needChoice_0 : decode cX11_needChoice 0 = .ok (.aload_n 0, 1) := by decide +kernel
theorem dX11_needChoice_1 : decode cX11_needChoice 1 = .ok (.getfield 23, 3) := by decide +kernel
theorem dX11_needChoice_4 : decode cX11_needChoice 4 = .ok (.iload_n 1, 1) := by decide +kernel
theorem dX11_needChoice_5 : decode cX11_needChoice 5 = .ok (.iload_n 2, 1) := by decide +kernel
theorem dX11_needChoice_6 : decode cX11_needChoice 6 = .ok (.invokevirtual 343, 3) := by decide +kernel
theorem dX11_needChoice_9 : decode cX11_needChoice 9 = .ok (.ifCond .ne 14, 3) := by decide +kernel
theorem dX11_needChoice_12 : decode cX11_needChoice 12 = .ok (.new 338, 3) := by decide +kernel
theorem dX11_needChoice_15 : decode cX11_needChoice 15 = .ok (.dup, 1) := by decide +kernel
theorem dX11_needChoice_16 : decode cX11_needChoice 16 = .ok (.ldc_w 346, 3) := by decide +kernel
theorem dX11_needChoice_19 : decode cX11_needChoice 19 = .ok (.invokespecial 342, 3) := by decide +kernel
theorem dX11_needChoice_22 : decode cX11_needChoice 22 = .ok (.athrow, 1) := by decide +kernel
theorem dX11_needChoice_23 : decode cX11_needChoice 23 = .ok (.return_, 1) := by decide +kernel
theorem dX11_needPlayer_0 : decode cX11_needPlayer 0 = .ok (.iload_n 0, 1) := by decide +kernel
theorem dX11_needPlayer_1 : decode cX11_needPlayer 1 = .ok (.bipush 97, 2) := by decide +kernel
theorem dX11_needPlayer_3 : decode cX11_needPlayer 3 = .ok (.if_icmp .eq 20, 3) := by decide +kernel
theorem dX11_needPlayer_6 : decode cX11_needPlayer 6 = .ok (.iload_n 0, 1) := by decide +kernel
theorem dX11_needPlayer_7 : decode cX11_needPlayer 7 = .ok (.bipush 98, 2) := by decide +kernel
theorem dX11_needPlayer_9 : decode cX11_needPlayer 9 = .ok (.if_icmp .eq 14, 3) := by decide +kernel
theorem dX11_needPlayer_12 : decode cX11_needPlayer 12 = .ok (.new 95, 3) := by decide +kernel
theorem dX11_needPlayer_15 : decode cX11_needPlayer 15 = .ok (.dup, 1) := by decide +kernel
theorem dX11_needPlayer_16 : decode cX11_needPlayer 16 = .ok (.ldc_w 348, 3) := by decide +kernel
theorem dX11_needPlayer_19 : decode cX11_needPlayer 19 = .ok (.invokespecial 99, 3) := by decide +kernel
theorem dX11_needPlayer_22 : decode cX11_needPlayer 22 = .ok (.athrow, 1) := by decide +kernel
theorem dX11_needPlayer_23 : decode cX11_needPlayer 23 = .ok (.return_, 1) := by decide +kernel
theorem dX11_needAim_0 : decode cX11_needAim 0 = .ok (.iload_n 0, 1) := by decide +kernel
theorem dX11_needAim_1 : decode cX11_needAim 1 = .ok (.bipush 114, 2) := by decide +kernel
theorem dX11_needAim_3 : decode cX11_needAim 3 = .ok (.if_icmp .eq 32, 3) := by decide +kernel
theorem dX11_needAim_6 : decode cX11_needAim 6 = .ok (.iload_n 0, 1) := by decide +kernel
theorem dX11_needAim_7 : decode cX11_needAim 7 = .ok (.bipush 102, 2) := by decide +kernel
theorem dX11_needAim_9 : decode cX11_needAim 9 = .ok (.if_icmp .eq 26, 3) := by decide +kernel
theorem dX11_needAim_12 : decode cX11_needAim 12 = .ok (.iload_n 0, 1) := by decide +kernel
theorem dX11_needAim_13 : decode cX11_needAim 13 = .ok (.bipush 115, 2) := by decide +kernel
theorem dX11_needAim_15 : decode cX11_needAim 15 = .ok (.if_icmp .eq 20, 3) := by decide +kernel
theorem dX11_needAim_18 : decode cX11_needAim 18 = .ok (.iload_n 0, 1) := by decide +kernel
theorem dX11_needAim_19 : decode cX11_needAim 19 = .ok (.bipush 119, 2) := by decide +kernel
theorem dX11_needAim_21 : decode cX11_needAim 21 = .ok (.if_icmp .eq 14, 3) := by decide +kernel
theorem dX11_needAim_24 : decode cX11_needAim 24 = .ok (.new 95, 3) := by decide +kernel
theorem dX11_needAim_27 : decode cX11_needAim 27 = .ok (.dup, 1) := by decide +kernel
theorem dX11_needAim_28 : decode cX11_needAim 28 = .ok (.ldc_w 350, 3) := by decide +kernel
theorem dX11_needAim_31 : decode cX11_needAim 31 = .ok (.invokespecial 99, 3) := by decide +kernel
theorem dX11_needAim_34 : decode cX11_needAim 34 = .ok (.athrow, 1) := by decide +kernel
theorem dX11_needAim_35 : decode cX11_needAim 35 = .ok (.return_, 1) := by decide +kernel
theorem dX11_lowestOf_0 : decode cX11_lowestOf 0 = .ok (.iload_n 0, 1) := by decide +kernel
theorem dX11_lowestOf_1 : decode cX11_lowestOf 1 = .ok (.ifCond .ne 14, 3) := by decide +kernel
theorem dX11_lowestOf_4 : decode cX11_lowestOf 4 = .ok (.new 286, 3) := by decide +kernel
theorem dX11_lowestOf_7 : decode cX11_lowestOf 7 = .ok (.dup, 1) := by decide +kernel
theorem dX11_lowestOf_8 : decode cX11_lowestOf 8 = .ok (.ldc_w 352, 3) := by decide +kernel
theorem dX11_lowestOf_11 : decode cX11_lowestOf 11 = .ok (.invokespecial 290, 3) := by decide +kernel
theorem dX11_lowestOf_14 : decode cX11_lowestOf 14 = .ok (.athrow, 1) := by decide +kernel
theorem dX11_lowestOf_15 : decode cX11_lowestOf 15 = .ok (.iload_n 0, 1) := by decide +kernel
theorem dX11_lowestOf_16 : decode cX11_lowestOf 16 = .ok (.invokestatic 354, 3) := by decide +kernel
theorem dX11_lowestOf_19 : decode cX11_lowestOf 19 = .ok (.ireturn, 1) := by decide +kernel
theorem dX11_commonDivisor_0 : decode cX11_commonDivisor 0 = .ok (.lload_n 0, 1) := by decide +kernel
theorem dX11_commonDivisor_1 : decode cX11_commonDivisor 1 = .ok (.lstore 4, 2) := by decide +kernel
theorem dX11_commonDivisor_3 : decode cX11_commonDivisor 3 = .ok (.lload_n 2, 1) := by decide +kernel
theorem dX11_commonDivisor_4 : decode cX11_commonDivisor 4 = .ok (.lstore 6, 2) := by decide +kernel
theorem dX11_commonDivisor_6 : decode cX11_commonDivisor 6 = .ok (.iconst 0, 1) := by decide +kernel
theorem dX11_commonDivisor_7 : decode cX11_commonDivisor 7 = .ok (.istore 8, 2) := by decide +kernel
theorem dX11_commonDivisor_9 : decode cX11_commonDivisor 9 = .ok (.iload 8, 2) := by decide +kernel
theorem dX11_commonDivisor_11 : decode cX11_commonDivisor 11 = .ok (.sipush 200, 3) := by decide +kernel
theorem dX11_commonDivisor_14 : decode cX11_commonDivisor 14 = .ok (.if_icmp .ge 31, 3) := by decide +kernel
theorem dX11_commonDivisor_17 : decode cX11_commonDivisor 17 = .ok (.lload 6, 2) := by decide +kernel
theorem dX11_commonDivisor_19 : decode cX11_commonDivisor 19 = .ok (.lconst 0, 1) := by decide +kernel
theorem dX11_commonDivisor_20 : decode cX11_commonDivisor 20 = .ok (.lcmp, 1) := by decide +kernel
theorem dX11_commonDivisor_21 : decode cX11_commonDivisor 21 = .ok (.ifCond .eq 24, 3) := by decide +kernel
theorem dX11_commonDivisor_24 : decode cX11_commonDivisor 24 = .ok (.lload 4, 2) := by decide +kernel
theorem dX11_commonDivisor_26 : decode cX11_commonDivisor 26 = .ok (.lload 6, 2) := by decide +kernel
theorem dX11_commonDivisor_28 : decode cX11_commonDivisor 28 = .ok (.lrem, 1) := by decide +kernel
theorem dX11_commonDivisor_29 : decode cX11_commonDivisor 29 = .ok (.lstore 9, 2) := by decide +kernel
theorem dX11_commonDivisor_31 : decode cX11_commonDivisor 31 = .ok (.lload 6, 2) := by decide +kernel
theorem dX11_commonDivisor_33 : decode cX11_commonDivisor 33 = .ok (.lstore 4, 2) := by decide +kernel
theorem dX11_commonDivisor_35 : decode cX11_commonDivisor 35 = .ok (.lload 9, 2) := by decide +kernel
theorem dX11_commonDivisor_37 : decode cX11_commonDivisor 37 = .ok (.lstore 6, 2) := by decide +kernel
theorem dX11_commonDivisor_39 : decode cX11_commonDivisor 39 = .ok (.iinc 8 1, 3) := by decide +kernel
theorem dX11_commonDivisor_42 : decode cX11_commonDivisor 42 = .ok (.goto (-33), 3) := by decide +kernel
theorem dX11_commonDivisor_45 : decode cX11_commonDivisor 45 = .ok (.lload 4, 2) := by decide +kernel
theorem dX11_commonDivisor_47 : decode cX11_commonDivisor 47 = .ok (.lreturn, 1) := by decide +kernel
theorem dX11_quotient_0 : decode cX11_quotient 0 = .ok (.lload_n 2, 1) := by decide +kernel
theorem dX11_quotient_1 : decode cX11_quotient 1 = .ok (.lconst 0, 1) := by decide +kernel
theorem dX11_quotient_2 : decode cX11_quotient 2 = .ok (.lcmp, 1) := by decide +kernel
theorem dX11_quotient_3 : decode cX11_quotient 3 = .ok (.ifCond .ne 7, 3) := by decide +kernel
theorem dX11_quotient_6 : decode cX11_quotient 6 = .ok (.lconst 0, 1) := by decide +kernel
theorem dX11_quotient_7 : decode cX11_quotient 7 = .ok (.goto 6, 3) := by decide +kernel
theorem dX11_quotient_10 : decode cX11_quotient 10 = .ok (.lload_n 0, 1) := by decide +kernel
theorem dX11_quotient_11 : decode cX11_quotient 11 = .ok (.lload_n 2, 1) := by decide +kernel
theorem dX11_quotient_12 : decode cX11_quotient 12 = .ok (.ldiv, 1) := by decide +kernel
theorem dX11_quotient_13 : decode cX11_quotient 13 = .ok (.lreturn, 1) := by decide +kernel
theorem dX11_lowestAbove_0 : decode cX11_lowestAbove 0 = .ok (.lload_n 0, 1) := by decide +kernel
theorem dX11_lowestAbove_1 : decode cX11_lowestAbove 1 = .ok (.lload_n 0, 1) := by decide +kernel
theorem dX11_lowestAbove_2 : decode cX11_lowestAbove 2 = .ok (.lload_n 2, 1) := by decide +kernel
theorem dX11_lowestAbove_3 : decode cX11_lowestAbove 3 = .ok (.invokestatic 359, 3) := by decide +kernel
theorem dX11_lowestAbove_6 : decode cX11_lowestAbove 6 = .ok (.invokestatic 362, 3) := by decide +kernel
theorem dX11_lowestAbove_9 : decode cX11_lowestAbove 9 = .ok (.lreturn, 1) := by decide +kernel
theorem dX11_lowestBelow_0 : decode cX11_lowestBelow 0 = .ok (.lload_n 2, 1) := by decide +kernel
theorem dX11_lowestBelow_1 : decode cX11_lowestBelow 1 = .ok (.lload_n 0, 1) := by decide +kernel
theorem dX11_lowestBelow_2 : decode cX11_lowestBelow 2 = .ok (.lload_n 2, 1) := by decide +kernel
theorem dX11_lowestBelow_3 : decode cX11_lowestBelow 3 = .ok (.invokestatic 359, 3) := by decide +kernel
theorem dX11_lowestBelow_6 : decode cX11_lowestBelow 6 = .ok (.invokestatic 362, 3) := by decide +kernel
theorem dX11_lowestBelow_9 : decode cX11_lowestBelow 9 = .ok (.lreturn, 1) := by decide +kernel
theorem dX11_compareFractions_0 : decode cX11_compareFractions 0 = .ok (.lload_n 0, 1) := by decide +kernel
theorem dX11_compareFractions_1 : decode cX11_compareFractions 1 = .ok (.lload_n 2, 1) := by decide +kernel
theorem dX11_compareFractions_2 : decode cX11_compareFractions 2 = .ok (.invokestatic 362, 3) := by decide +kernel
theorem dX11_compareFractions_5 : decode cX11_compareFractions 5 = .ok (.lstore 8, 2) := by decide +kernel
theorem dX11_compareFractions_7 : decode cX11_compareFractions 7 = .ok (.lload 4, 2) := by decide +kernel
theorem dX11_compareFractions_9 : decode cX11_compareFractions 9 = .ok (.lload 6, 2) := by decide +kernel
theorem dX11_compareFractions_11 : decode cX11_compareFractions 11 = .ok (.invokestatic 362, 3) := by decide +kernel
theorem dX11_compareFractions_14 : decode cX11_compareFractions 14 = .ok (.lstore 10, 2) := by decide +kernel
theorem dX11_compareFractions_16 : decode cX11_compareFractions 16 = .ok (.lload 8, 2) := by decide +kernel
theorem dX11_compareFractions_18 : decode cX11_compareFractions 18 = .ok (.lload 10, 2) := by decide +kernel
theorem dX11_compareFractions_20 : decode cX11_compareFractions 20 = .ok (.lcmp, 1) := by decide +kernel
theorem dX11_compareFractions_21 : decode cX11_compareFractions 21 = .ok (.ifCond .eq 11, 3) := by decide +kernel
theorem dX11_compareFractions_24 : decode cX11_compareFractions 24 = .ok (.lload 8, 2) := by decide +kernel
theorem dX11_compareFractions_26 : decode cX11_compareFractions 26 = .ok (.lload 10, 2) := by decide +kernel
theorem dX11_compareFractions_28 : decode cX11_compareFractions 28 = .ok (.invokestatic 365, 3) := by decide +kernel
theorem dX11_compareFractions_31 : decode cX11_compareFractions 31 = .ok (.ireturn, 1) := by decide +kernel
theorem dX11_compareFractions_32 : decode cX11_compareFractions 32 = .ok (.lload_n 0, 1) := by decide +kernel
theorem dX11_compareFractions_33 : decode cX11_compareFractions 33 = .ok (.lload 8, 2) := by decide +kernel
theorem dX11_compareFractions_35 : decode cX11_compareFractions 35 = .ok (.lload_n 2, 1) := by decide +kernel
theorem dX11_compareFractions_36 : decode cX11_compareFractions 36 = .ok (.lmul, 1) := by decide +kernel
theorem dX11_compareFractions_37 : decode cX11_compareFractions 37 = .ok (.lsub, 1) := by decide +kernel
theorem dX11_compareFractions_38 : decode cX11_compareFractions 38 = .ok (.lload 6, 2) := by decide +kernel
theorem dX11_compareFractions_40 : decode cX11_compareFractions 40 = .ok (.lmul, 1) := by decide +kernel
theorem dX11_compareFractions_41 : decode cX11_compareFractions 41 = .ok (.lload 4, 2) := by decide +kernel
theorem dX11_compareFractions_43 : decode cX11_compareFractions 43 = .ok (.lload 10, 2) := by decide +kernel
theorem dX11_compareFractions_45 : decode cX11_compareFractions 45 = .ok (.lload 6, 2) := by decide +kernel
theorem dX11_compareFractions_47 : decode cX11_compareFractions 47 = .ok (.lmul, 1) := by decide +kernel
theorem dX11_compareFractions_48 : decode cX11_compareFractions 48 = .ok (.lsub, 1) := by decide +kernel
theorem dX11_compareFractions_49 : decode cX11_compareFractions 49 = .ok (.lload_n 2, 1) := by decide +kernel
theorem dX11_compareFractions_50 : decode cX11_compareFractions 50 = .ok (.lmul, 1) := by decide +kernel
theorem dX11_compareFractions_51 : decode cX11_compareFractions 51 = .ok (.invokestatic 365, 3) := by decide +kernel
theorem dX11_compareFractions_54 : decode cX11_compareFractions 54 = .ok (.ireturn, 1) := by decide +kernel
theorem dX11_floatOf_0 : decode cX11_floatOf 0 = .ok (.lload_n 2, 1) := by decide +kernel
theorem dX11_floatOf_1 : decode cX11_floatOf 1 = .ok (.lconst 0, 1) := by decide +kernel
theorem dX11_floatOf_2 : decode cX11_floatOf 2 = .ok (.lcmp, 1) := by decide +kernel
theorem dX11_floatOf_3 : decode cX11_floatOf 3 = .ok (.ifCond .ne 7, 3) := by decide +kernel
theorem dX11_floatOf_6 : decode cX11_floatOf 6 = .ok (.fconst 0, 1) := by decide +kernel
theorem dX11_floatOf_7 : decode cX11_floatOf 7 = .ok (.goto 8, 3) := by decide +kernel
theorem dX11_floatOf_10 : decode cX11_floatOf 10 = .ok (.lload_n 0, 1) := by decide +kernel
theorem dX11_floatOf_11 : decode cX11_floatOf 11 = .ok (.l2f, 1) := by decide +kernel
theorem dX11_floatOf_12 : decode cX11_floatOf 12 = .ok (.lload_n 2, 1) := by decide +kernel
theorem dX11_floatOf_13 : decode cX11_floatOf 13 = .ok (.l2f, 1) := by decide +kernel
theorem dX11_floatOf_14 : decode cX11_floatOf 14 = .ok (.fdiv, 1) := by decide +kernel
theorem dX11_floatOf_15 : decode cX11_floatOf 15 = .ok (.freturn, 1) := by decide +kernel
theorem dJx00060_init_a7421_0 : decode cJx00060_init_a7421 0 = .ok (.aload_n 0, 1) := by decide +kernel
theorem dJx00060_init_a7421_1 : decode cJx00060_init_a7421 1 = .ok (.aload_n 1, 1) := by decide +kernel
theorem dJx00060_init_a7421_2 : decode cJx00060_init_a7421 2 = .ok (.invokespecial 7, 3) := by decide +kernel
theorem dJx00060_init_a7421_5 : decode cJx00060_init_a7421 5 = .ok (.return_, 1) := by decide +kernel
theorem dJ6_numberOfTrailingZeros_0f7a4_0 : decode cJ6_numberOfTrailingZeros_0f7a4 0 = .ok (.iload_n 0, 1) := by decide +kernel
theorem dJ6_numberOfTrailingZeros_0f7a4_1 : decode cJ6_numberOfTrailingZeros_0f7a4 1 = .ok (.iconst (-1), 1) := by decide +kernel
theorem dJ6_numberOfTrailingZeros_0f7a4_2 : decode cJ6_numberOfTrailingZeros_0f7a4 2 = .ok (.ixor, 1) := by decide +kernel
theorem dJ6_numberOfTrailingZeros_0f7a4_3 : decode cJ6_numberOfTrailingZeros_0f7a4 3 = .ok (.iload_n 0, 1) := by decide +kernel
theorem dJ6_numberOfTrailingZeros_0f7a4_4 : decode cJ6_numberOfTrailingZeros_0f7a4 4 = .ok (.iconst 1, 1) := by decide +kernel
theorem dJ6_numberOfTrailingZeros_0f7a4_5 : decode cJ6_numberOfTrailingZeros_0f7a4 5 = .ok (.isub, 1) := by decide +kernel
theorem dJ6_numberOfTrailingZeros_0f7a4_6 : decode cJ6_numberOfTrailingZeros_0f7a4 6 = .ok (.iand, 1) := by decide +kernel
theorem dJ6_numberOfTrailingZeros_0f7a4_7 : decode cJ6_numberOfTrailingZeros_0f7a4 7 = .ok (.istore_n 0, 1) := by decide +kernel
theorem dJ6_numberOfTrailingZeros_0f7a4_8 : decode cJ6_numberOfTrailingZeros_0f7a4 8 = .ok (.iload_n 0, 1) := by decide +kernel
theorem dJ6_numberOfTrailingZeros_0f7a4_9 : decode cJ6_numberOfTrailingZeros_0f7a4 9 = .ok (.ifCond .gt 8, 3) := by decide +kernel
theorem dJ6_numberOfTrailingZeros_0f7a4_12 : decode cJ6_numberOfTrailingZeros_0f7a4 12 = .ok (.iload_n 0, 1) := by decide +kernel
theorem dJ6_numberOfTrailingZeros_0f7a4_13 : decode cJ6_numberOfTrailingZeros_0f7a4 13 = .ok (.bipush 32, 2) := by decide +kernel
theorem dJ6_numberOfTrailingZeros_0f7a4_15 : decode cJ6_numberOfTrailingZeros_0f7a4 15 = .ok (.iand, 1) := by decide +kernel
theorem dJ6_numberOfTrailingZeros_0f7a4_16 : decode cJ6_numberOfTrailingZeros_0f7a4 16 = .ok (.ireturn, 1) := by decide +kernel
theorem dJ6_numberOfTrailingZeros_0f7a4_17 : decode cJ6_numberOfTrailingZeros_0f7a4 17 = .ok (.iconst 1, 1) := by decide +kernel
theorem dJ6_numberOfTrailingZeros_0f7a4_18 : decode cJ6_numberOfTrailingZeros_0f7a4 18 = .ok (.istore_n 1, 1) := by decide +kernel
theorem dJ6_numberOfTrailingZeros_0f7a4_19 : decode cJ6_numberOfTrailingZeros_0f7a4 19 = .ok (.iload_n 0, 1) := by decide +kernel
theorem dJ6_numberOfTrailingZeros_0f7a4_20 : decode cJ6_numberOfTrailingZeros_0f7a4 20 = .ok (.ldc_w 264, 3) := by decide +kernel
theorem dJ6_numberOfTrailingZeros_0f7a4_23 : decode cJ6_numberOfTrailingZeros_0f7a4 23 = .ok (.if_icmp .le 11, 3) := by decide +kernel
theorem dJ6_numberOfTrailingZeros_0f7a4_26 : decode cJ6_numberOfTrailingZeros_0f7a4 26 = .ok (.iinc 1 16, 3) := by decide +kernel
theorem dJ6_numberOfTrailingZeros_0f7a4_29 : decode cJ6_numberOfTrailingZeros_0f7a4 29 = .ok (.iload_n 0, 1) := by decide +kernel
theorem dJ6_numberOfTrailingZeros_0f7a4_30 : decode cJ6_numberOfTrailingZeros_0f7a4 30 = .ok (.bipush 16, 2) := by decide +kernel
theorem dJ6_numberOfTrailingZeros_0f7a4_32 : decode cJ6_numberOfTrailingZeros_0f7a4 32 = .ok (.iushr, 1) := by decide +kernel
theorem dJ6_numberOfTrailingZeros_0f7a4_33 : decode cJ6_numberOfTrailingZeros_0f7a4 33 = .ok (.istore_n 0, 1) := by decide +kernel
theorem dJ6_numberOfTrailingZeros_0f7a4_34 : decode cJ6_numberOfTrailingZeros_0f7a4 34 = .ok (.iload_n 0, 1) := by decide +kernel
theorem dJ6_numberOfTrailingZeros_0f7a4_35 : decode cJ6_numberOfTrailingZeros_0f7a4 35 = .ok (.sipush 256, 3) := by decide +kernel
theorem dJ6_numberOfTrailingZeros_0f7a4_38 : decode cJ6_numberOfTrailingZeros_0f7a4 38 = .ok (.if_icmp .le 11, 3) := by decide +kernel
theorem dJ6_numberOfTrailingZeros_0f7a4_41 : decode cJ6_numberOfTrailingZeros_0f7a4 41 = .ok (.iinc 1 8, 3) := by decide +kernel
theorem dJ6_numberOfTrailingZeros_0f7a4_44 : decode cJ6_numberOfTrailingZeros_0f7a4 44 = .ok (.iload_n 0, 1) := by decide +kernel
theorem dJ6_numberOfTrailingZeros_0f7a4_45 : decode cJ6_numberOfTrailingZeros_0f7a4 45 = .ok (.bipush 8, 2) := by decide +kernel
theorem dJ6_numberOfTrailingZeros_0f7a4_47 : decode cJ6_numberOfTrailingZeros_0f7a4 47 = .ok (.iushr, 1) := by decide +kernel
theorem dJ6_numberOfTrailingZeros_0f7a4_48 : decode cJ6_numberOfTrailingZeros_0f7a4 48 = .ok (.istore_n 0, 1) := by decide +kernel
theorem dJ6_numberOfTrailingZeros_0f7a4_49 : decode cJ6_numberOfTrailingZeros_0f7a4 49 = .ok (.iload_n 0, 1) := by decide +kernel
theorem dJ6_numberOfTrailingZeros_0f7a4_50 : decode cJ6_numberOfTrailingZeros_0f7a4 50 = .ok (.bipush 16, 2) := by decide +kernel
theorem dJ6_numberOfTrailingZeros_0f7a4_52 : decode cJ6_numberOfTrailingZeros_0f7a4 52 = .ok (.if_icmp .le 10, 3) := by decide +kernel
theorem dJ6_numberOfTrailingZeros_0f7a4_55 : decode cJ6_numberOfTrailingZeros_0f7a4 55 = .ok (.iinc 1 4, 3) := by decide +kernel
theorem dJ6_numberOfTrailingZeros_0f7a4_58 : decode cJ6_numberOfTrailingZeros_0f7a4 58 = .ok (.iload_n 0, 1) := by decide +kernel
theorem dJ6_numberOfTrailingZeros_0f7a4_59 : decode cJ6_numberOfTrailingZeros_0f7a4 59 = .ok (.iconst 4, 1) := by decide +kernel
theorem dJ6_numberOfTrailingZeros_0f7a4_60 : decode cJ6_numberOfTrailingZeros_0f7a4 60 = .ok (.iushr, 1) := by decide +kernel
theorem dJ6_numberOfTrailingZeros_0f7a4_61 : decode cJ6_numberOfTrailingZeros_0f7a4 61 = .ok (.istore_n 0, 1) := by decide +kernel
theorem dJ6_numberOfTrailingZeros_0f7a4_62 : decode cJ6_numberOfTrailingZeros_0f7a4 62 = .ok (.iload_n 0, 1) := by decide +kernel
theorem dJ6_numberOfTrailingZeros_0f7a4_63 : decode cJ6_numberOfTrailingZeros_0f7a4 63 = .ok (.iconst 4, 1) := by decide +kernel
theorem dJ6_numberOfTrailingZeros_0f7a4_64 : decode cJ6_numberOfTrailingZeros_0f7a4 64 = .ok (.if_icmp .le 10, 3) := by decide +kernel
theorem dJ6_numberOfTrailingZeros_0f7a4_67 : decode cJ6_numberOfTrailingZeros_0f7a4 67 = .ok (.iinc 1 2, 3) := by decide +kernel
theorem dJ6_numberOfTrailingZeros_0f7a4_70 : decode cJ6_numberOfTrailingZeros_0f7a4 70 = .ok (.iload_n 0, 1) := by decide +kernel
theorem dJ6_numberOfTrailingZeros_0f7a4_71 : decode cJ6_numberOfTrailingZeros_0f7a4 71 = .ok (.iconst 2, 1) := by decide +kernel
theorem dJ6_numberOfTrailingZeros_0f7a4_72 : decode cJ6_numberOfTrailingZeros_0f7a4 72 = .ok (.iushr, 1) := by decide +kernel
theorem dJ6_numberOfTrailingZeros_0f7a4_73 : decode cJ6_numberOfTrailingZeros_0f7a4 73 = .ok (.istore_n 0, 1) := by decide +kernel
theorem dJ6_numberOfTrailingZeros_0f7a4_74 : decode cJ6_numberOfTrailingZeros_0f7a4 74 = .ok (.iload_n 1, 1) := by decide +kernel
theorem dJ6_numberOfTrailingZeros_0f7a4_75 : decode cJ6_numberOfTrailingZeros_0f7a4 75 = .ok (.iload_n 0, 1) := by decide +kernel
theorem dJ6_numberOfTrailingZeros_0f7a4_76 : decode cJ6_numberOfTrailingZeros_0f7a4 76 = .ok (.iconst 1, 1) := by decide +kernel
theorem dJ6_numberOfTrailingZeros_0f7a4_77 : decode cJ6_numberOfTrailingZeros_0f7a4 77 = .ok (.iushr, 1) := by decide +kernel
theorem dJ6_numberOfTrailingZeros_0f7a4_78 : decode cJ6_numberOfTrailingZeros_0f7a4 78 = .ok (.iadd, 1) := by decide +kernel
theorem dJ6_numberOfTrailingZeros_0f7a4_79 : decode cJ6_numberOfTrailingZeros_0f7a4 79 = .ok (.ireturn, 1) := by decide +kernel
theorem dJ13_compare_74951_0 : decode cJ13_compare_74951 0 = .ok (.lload_n 0, 1) := by decide +kernel
theorem dJ13_compare_74951_1 : decode cJ13_compare_74951 1 = .ok (.lload_n 2, 1) := by decide +kernel
theorem dJ13_compare_74951_2 : decode cJ13_compare_74951 2 = .ok (.lcmp, 1) := by decide +kernel
theorem dJ13_compare_74951_3 : decode cJ13_compare_74951 3 = .ok (.ifCond .ge 7, 3) := by decide +kernel
theorem dJ13_compare_74951_6 : decode cJ13_compare_74951 6 = .ok (.iconst (-1), 1) := by decide +kernel
theorem dJ13_compare_74951_7 : decode cJ13_compare_74951 7 = .ok (.goto 14, 3) := by decide +kernel
theorem dJ13_compare_74951_10 : decode cJ13_compare_74951 10 = .ok (.lload_n 0, 1) := by decide +kernel
theorem dJ13_compare_74951_11 : decode cJ13_compare_74951 11 = .ok (.lload_n 2, 1) := by decide +kernel
theorem dJ13_compare_74951_12 : decode cJ13_compare_74951 12 = .ok (.lcmp, 1) := by decide +kernel
theorem dJ13_compare_74951_13 : decode cJ13_compare_74951 13 = .ok (.ifCond .ne 7, 3) := by decide +kernel
theorem dJ13_compare_74951_16 : decode cJ13_compare_74951 16 = .ok (.iconst 0, 1) := by decide +kernel
theorem dJ13_compare_74951_17 : decode cJ13_compare_74951 17 = .ok (.goto 4, 3) := by decide +kernel
theorem dJ13_compare_74951_20 : decode cJ13_compare_74951 20 = .ok (.iconst 1, 1) := by decide +kernel
theorem dJ13_compare_74951_21 : decode cJ13_compare_74951 21 = .ok (.ireturn, 1) := by decide +kernel
theorem dJ9_min_7cf53_0 : decode cJ9_min_7cf53 0 = .ok (.iload_n 0, 1) := by decide +kernel
theorem dJ9_min_7cf53_1 : decode cJ9_min_7cf53 1 = .ok (.iload_n 1, 1) := by decide +kernel
theorem dJ9_min_7cf53_2 : decode cJ9_min_7cf53 2 = .ok (.if_icmp .gt 7, 3) := by decide +kernel
theorem dJ9_min_7cf53_5 : decode cJ9_min_7cf53 5 = .ok (.iload_n 0, 1) := by decide +kernel
theorem dJ9_min_7cf53_6 : decode cJ9_min_7cf53 6 = .ok (.goto 4, 3) := by decide +kernel
theorem dJ9_min_7cf53_9 : decode cJ9_min_7cf53 9 = .ok (.iload_n 1, 1) := by decide +kernel
theorem dJ9_min_7cf53_10 : decode cJ9_min_7cf53 10 = .ok (.ireturn, 1) := by decide +kernel
theorem dJ0_charAt_5068e_0 : decode cJ0_charAt_5068e 0 = .ok (.aload_n 0, 1) := by decide +kernel
theorem dJ0_charAt_5068e_1 : decode cJ0_charAt_5068e 1 = .ok (.invokevirtual 492, 3) := by decide +kernel
theorem dJ0_charAt_5068e_4 : decode cJ0_charAt_5068e 4 = .ok (.ifCond .eq 12, 3) := by decide +kernel
theorem dJ0_charAt_5068e_7 : decode cJ0_charAt_5068e 7 = .ok (.aload_n 0, 1) := by decide +kernel
theorem dJ0_charAt_5068e_8 : decode cJ0_charAt_5068e 8 = .ok (.getfield 9, 3) := by decide +kernel
theorem dJ0_charAt_5068e_11 : decode cJ0_charAt_5068e 11 = .ok (.iload_n 1, 1) := by decide +kernel
theorem dJ0_charAt_5068e_12 : decode cJ0_charAt_5068e 12 = .ok (.invokestatic 495, 3) := by decide +kernel
theorem dJ0_charAt_5068e_15 : decode cJ0_charAt_5068e 15 = .ok (.ireturn, 1) := by decide +kernel
theorem dJ0_charAt_5068e_16 : decode cJ0_charAt_5068e 16 = .ok (.aload_n 0, 1) := by decide +kernel
theorem dJ0_charAt_5068e_17 : decode cJ0_charAt_5068e 17 = .ok (.getfield 9, 3) := by decide +kernel
theorem dJ0_charAt_5068e_20 : decode cJ0_charAt_5068e 20 = .ok (.iload_n 1, 1) := by decide +kernel
theorem dJ0_charAt_5068e_21 : decode cJ0_charAt_5068e 21 = .ok (.invokestatic 498, 3) := by decide +kernel
theorem dJ0_charAt_5068e_24 : decode cJ0_charAt_5068e 24 = .ok (.ireturn, 1) := by decide +kernel
theorem dJ0_isLatin1_aae02_0 : decode cJ0_isLatin1_aae02 0 = .ok (.getstatic 38, 3) := by decide +kernel
theorem dJ0_isLatin1_aae02_3 : decode cJ0_isLatin1_aae02 3 = .ok (.ifCond .eq 14, 3) := by decide +kernel
theorem dJ0_isLatin1_aae02_6 : decode cJ0_isLatin1_aae02 6 = .ok (.aload_n 0, 1) := by decide +kernel
theorem dJ0_isLatin1_aae02_7 : decode cJ0_isLatin1_aae02 7 = .ok (.getfield 15, 3) := by decide +kernel
theorem dJ0_isLatin1_aae02_10 : decode cJ0_isLatin1_aae02 10 = .ok (.ifCond .ne 7, 3) := by decide +kernel
theorem dJ0_isLatin1_aae02_13 : decode cJ0_isLatin1_aae02 13 = .ok (.iconst 1, 1) := by decide +kernel
theorem dJ0_isLatin1_aae02_14 : decode cJ0_isLatin1_aae02 14 = .ok (.goto 4, 3) := by decide +kernel
theorem dJ0_isLatin1_aae02_17 : decode cJ0_isLatin1_aae02 17 = .ok (.iconst 0, 1) := by decide +kernel
theorem dJ0_isLatin1_aae02_18 : decode cJ0_isLatin1_aae02 18 = .ok (.ireturn, 1) := by decide +kernel
theorem dJ0_checkIndex_df160_0 : decode cJ0_checkIndex_df160 0 = .ok (.iload_n 0, 1) := by decide +kernel
theorem dJ0_checkIndex_df160_1 : decode cJ0_checkIndex_df160 1 = .ok (.iload_n 1, 1) := by decide +kernel
theorem dJ0_checkIndex_df160_2 : decode cJ0_checkIndex_df160 2 = .ok (.getstatic 1053, 3) := by decide +kernel
theorem dJ0_checkIndex_df160_5 : decode cJ0_checkIndex_df160 5 = .ok (.invokestatic 1059, 3) := by decide +kernel
theorem dJ0_checkIndex_df160_8 : decode cJ0_checkIndex_df160 8 = .ok (.pop, 1) := by decide +kernel
theorem dJ0_checkIndex_df160_9 : decode cJ0_checkIndex_df160 9 = .ok (.return_, 1) := by decide +kernel
theorem dJ1_charAt_3b067_0 : decode cJ1_charAt_3b067 0 = .ok (.iload_n 1, 1) := by decide +kernel
theorem dJ1_charAt_3b067_1 : decode cJ1_charAt_3b067 1 = .ok (.aload_n 0, 1) := by decide +kernel
theorem dJ1_charAt_3b067_2 : decode cJ1_charAt_3b067 2 = .ok (.arraylength, 1) := by decide +kernel
theorem dJ1_charAt_3b067_3 : decode cJ1_charAt_3b067 3 = .ok (.invokestatic 9, 3) := by decide +kernel
theorem dJ1_charAt_3b067_6 : decode cJ1_charAt_3b067 6 = .ok (.aload_n 0, 1) := by decide +kernel
theorem dJ1_charAt_3b067_7 : decode cJ1_charAt_3b067 7 = .ok (.iload_n 1, 1) := by decide +kernel
theorem dJ1_charAt_3b067_8 : decode cJ1_charAt_3b067 8 = .ok (.baload, 1) := by decide +kernel
theorem dJ1_charAt_3b067_9 : decode cJ1_charAt_3b067 9 = .ok (.sipush 255, 3) := by decide +kernel
theorem dJ1_charAt_3b067_12 : decode cJ1_charAt_3b067 12 = .ok (.iand, 1) := by decide +kernel
theorem dJ1_charAt_3b067_13 : decode cJ1_charAt_3b067 13 = .ok (.i2c, 1) := by decide +kernel
theorem dJ1_charAt_3b067_14 : decode cJ1_charAt_3b067 14 = .ok (.ireturn, 1) := by decide +kernel
theorem dJ2_getChar_3b067_0 : decode cJ2_getChar_3b067 0 = .ok (.getstatic 44, 3) := by decide +kernel
theorem dJ2_getChar_3b067_3 : decode cJ2_getChar_3b067 3 = .ok (.ifCond .ne 25, 3) := by decide +kernel
theorem dJ2_getChar_3b067_6 : decode cJ2_getChar_3b067 6 = .ok (.iload_n 1, 1) := by decide +kernel
theorem dJ2_getChar_3b067_7 : decode cJ2_getChar_3b067 7 = .ok (.ifCond .lt 11, 3) := by decide +kernel
theorem dJ2_getChar_3b067_10 : decode cJ2_getChar_3b067 10 = .ok (.iload_n 1, 1) := by decide +kernel
theorem dJ2_getChar_3b067_11 : decode cJ2_getChar_3b067 11 = .ok (.aload_n 0, 1) := by decide +kernel
theorem dJ2_getChar_3b067_12 : decode cJ2_getChar_3b067 12 = .ok (.invokestatic 48, 3) := by decide +kernel
theorem dJ2_getChar_3b067_15 : decode cJ2_getChar_3b067 15 = .ok (.if_icmp .lt 13, 3) := by decide +kernel
theorem dJ2_getChar_3b067_18 : decode cJ2_getChar_3b067 18 = .ok (.new 52, 3) := by decide +kernel
theorem dJ2_getChar_3b067_21 : decode cJ2_getChar_3b067 21 = .ok (.dup, 1) := by decide +kernel
theorem dJ2_getChar_3b067_22 : decode cJ2_getChar_3b067 22 = .ok (.ldc 54, 2) := by decide +kernel
theorem dJ2_getChar_3b067_24 : decode cJ2_getChar_3b067 24 = .ok (.invokespecial 56, 3) := by decide +kernel
theorem dJ2_getChar_3b067_27 : decode cJ2_getChar_3b067 27 = .ok (.athrow, 1) := by decide +kernel
theorem dJ2_getChar_3b067_28 : decode cJ2_getChar_3b067 28 = .ok (.iload_n 1, 1) := by decide +kernel
theorem dJ2_getChar_3b067_29 : decode cJ2_getChar_3b067 29 = .ok (.iconst 1, 1) := by decide +kernel
theorem dJ2_getChar_3b067_30 : decode cJ2_getChar_3b067 30 = .ok (.ishl, 1) := by decide +kernel
theorem dJ2_getChar_3b067_31 : decode cJ2_getChar_3b067 31 = .ok (.istore_n 1, 1) := by decide +kernel
theorem dJ2_getChar_3b067_32 : decode cJ2_getChar_3b067 32 = .ok (.aload_n 0, 1) := by decide +kernel
theorem dJ2_getChar_3b067_33 : decode cJ2_getChar_3b067 33 = .ok (.iload_n 1, 1) := by decide +kernel
theorem dJ2_getChar_3b067_34 : decode cJ2_getChar_3b067 34 = .ok (.iinc 1 1, 3) := by decide +kernel
theorem dJ2_getChar_3b067_37 : decode cJ2_getChar_3b067 37 = .ok (.baload, 1) := by decide +kernel
theorem dJ2_getChar_3b067_38 : decode cJ2_getChar_3b067 38 = .ok (.sipush 255, 3) := by decide +kernel
theorem dJ2_getChar_3b067_41 : decode cJ2_getChar_3b067 41 = .ok (.iand, 1) := by decide +kernel
theorem dJ2_getChar_3b067_42 : decode cJ2_getChar_3b067 42 = .ok (.getstatic 59, 3) := by decide +kernel
theorem dJ2_getChar_3b067_45 : decode cJ2_getChar_3b067 45 = .ok (.ishl, 1) := by decide +kernel
theorem dJ2_getChar_3b067_46 : decode cJ2_getChar_3b067 46 = .ok (.aload_n 0, 1) := by decide +kernel
theorem dJ2_getChar_3b067_47 : decode cJ2_getChar_3b067 47 = .ok (.iload_n 1, 1) := by decide +kernel
theorem dJ2_getChar_3b067_48 : decode cJ2_getChar_3b067 48 = .ok (.baload, 1) := by decide +kernel
theorem dJ2_getChar_3b067_49 : decode cJ2_getChar_3b067 49 = .ok (.sipush 255, 3) := by decide +kernel
theorem dJ2_getChar_3b067_52 : decode cJ2_getChar_3b067 52 = .ok (.iand, 1) := by decide +kernel
theorem dJ2_getChar_3b067_53 : decode cJ2_getChar_3b067 53 = .ok (.getstatic 63, 3) := by decide +kernel
theorem dJ2_getChar_3b067_56 : decode cJ2_getChar_3b067 56 = .ok (.ishl, 1) := by decide +kernel
theorem dJ2_getChar_3b067_57 : decode cJ2_getChar_3b067 57 = .ok (.ior, 1) := by decide +kernel
theorem dJ2_getChar_3b067_58 : decode cJ2_getChar_3b067 58 = .ok (.i2c, 1) := by decide +kernel
theorem dJ2_getChar_3b067_59 : decode cJ2_getChar_3b067 59 = .ok (.ireturn, 1) := by decide +kernel
theorem dJ2_length_9d52b_0 : decode cJ2_length_9d52b 0 = .ok (.aload_n 0, 1) := by decide +kernel
theorem dJ2_length_9d52b_1 : decode cJ2_length_9d52b 1 = .ok (.arraylength, 1) := by decide +kernel
theorem dJ2_length_9d52b_2 : decode cJ2_length_9d52b 2 = .ok (.iconst 1, 1) := by decide +kernel
theorem dJ2_length_9d52b_3 : decode cJ2_length_9d52b 3 = .ok (.ishr, 1) := by decide +kernel
theorem dJ2_length_9d52b_4 : decode cJ2_length_9d52b 4 = .ok (.ireturn, 1) := by decide +kernel
theorem dJ2_charAt_3b067_0 : decode cJ2_charAt_3b067 0 = .ok (.iload_n 1, 1) := by decide +kernel
theorem dJ2_charAt_3b067_1 : decode cJ2_charAt_3b067 1 = .ok (.aload_n 0, 1) := by decide +kernel
theorem dJ2_charAt_3b067_2 : decode cJ2_charAt_3b067 2 = .ok (.invokestatic 67, 3) := by decide +kernel
theorem dJ2_charAt_3b067_5 : decode cJ2_charAt_3b067 5 = .ok (.aload_n 0, 1) := by decide +kernel
theorem dJ2_charAt_3b067_6 : decode cJ2_charAt_3b067 6 = .ok (.iload_n 1, 1) := by decide +kernel
theorem dJ2_charAt_3b067_7 : decode cJ2_charAt_3b067 7 = .ok (.invokestatic 71, 3) := by decide +kernel
theorem dJ2_charAt_3b067_10 : decode cJ2_charAt_3b067 10 = .ok (.ireturn, 1) := by decide +kernel
theorem dJ2_checkIndex_2214a_0 : decode cJ2_checkIndex_2214a 0 = .ok (.iload_n 0, 1) := by decide +kernel
theorem dJ2_checkIndex_2214a_1 : decode cJ2_checkIndex_2214a 1 = .ok (.aload_n 1, 1) := by decide +kernel
theorem dJ2_checkIndex_2214a_2 : decode cJ2_checkIndex_2214a 2 = .ok (.invokestatic 48, 3) := by decide +kernel
theorem dJ2_checkIndex_2214a_5 : decode cJ2_checkIndex_2214a 5 = .ok (.invokestatic 414, 3) := by decide +kernel
theorem dJ2_checkIndex_2214a_8 : decode cJ2_checkIndex_2214a 8 = .ok (.return_, 1) := by decide +kernel
theorem dJ3_checkIndex_8e157_0 : decode cJ3_checkIndex_8e157 0 = .ok (.iload_n 0, 1) := by decide +kernel
theorem dJ3_checkIndex_8e157_1 : decode cJ3_checkIndex_8e157 1 = .ok (.ifCond .lt 8, 3) := by decide +kernel
theorem dJ3_checkIndex_8e157_4 : decode cJ3_checkIndex_8e157 4 = .ok (.iload_n 0, 1) := by decide +kernel
theorem dJ3_checkIndex_8e157_5 : decode cJ3_checkIndex_8e157 5 = .ok (.iload_n 1, 1) := by decide +kernel
theorem dJ3_checkIndex_8e157_6 : decode cJ3_checkIndex_8e157 6 = .ok (.if_icmp .lt 10, 3) := by decide +kernel
theorem dJ3_checkIndex_8e157_9 : decode cJ3_checkIndex_8e157 9 = .ok (.aload_n 2, 1) := by decide +kernel
theorem dJ3_checkIndex_8e157_10 : decode cJ3_checkIndex_8e157 10 = .ok (.iload_n 0, 1) := by decide +kernel
theorem dJ3_checkIndex_8e157_11 : decode cJ3_checkIndex_8e157 11 = .ok (.iload_n 1, 1) := by decide +kernel
theorem dJ3_checkIndex_8e157_12 : decode cJ3_checkIndex_8e157 12 = .ok (.invokestatic 95, 3) := by decide +kernel
theorem dJ3_checkIndex_8e157_15 : decode cJ3_checkIndex_8e157 15 = .ok (.athrow, 1) := by decide +kernel
theorem dJ3_checkIndex_8e157_16 : decode cJ3_checkIndex_8e157 16 = .ok (.iload_n 0, 1) := by decide +kernel
theorem dJ3_checkIndex_8e157_17 : decode cJ3_checkIndex_8e157 17 = .ok (.ireturn, 1) := by decide +kernel
