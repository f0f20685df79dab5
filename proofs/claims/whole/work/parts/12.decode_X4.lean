theorem dX0_init_0 : decode cX0_init 0 = .ok (.aload_n 0, 1) := by decide +kernel
theorem dX0_init_1 : decode cX0_init 1 = .ok (.invokespecial 7, 3) := by decide +kernel
theorem dX0_init_4 : decode cX0_init 4 = .ok (.aload_n 0, 1) := by decide +kernel
theorem dX0_init_5 : decode cX0_init 5 = .ok (.sipush 11520, 3) := by decide +kernel
theorem dX0_init_8 : decode cX0_init 8 = .ok (.newarray .int, 2) := by decide +kernel
theorem dX0_init_10 : decode cX0_init 10 = .ok (.putfield 13, 3) := by decide +kernel
theorem dX0_init_13 : decode cX0_init 13 = .ok (.aload_n 0, 1) := by decide +kernel
theorem dX0_init_14 : decode cX0_init 14 = .ok (.bipush 40, 2) := by decide +kernel
theorem dX0_init_16 : decode cX0_init 16 = .ok (.newarray .int, 2) := by decide +kernel
theorem dX0_init_18 : decode cX0_init 18 = .ok (.putfield 17, 3) := by decide +kernel
theorem dX0_init_21 : decode cX0_init 21 = .ok (.aload_n 0, 1) := by decide +kernel
theorem dX0_init_22 : decode cX0_init 22 = .ok (.bipush 6, 2) := by decide +kernel
theorem dX0_init_24 : decode cX0_init 24 = .ok (.newarray .int, 2) := by decide +kernel
theorem dX0_init_26 : decode cX0_init 26 = .ok (.putfield 20, 3) := by decide +kernel
theorem dX0_init_29 : decode cX0_init 29 = .ok (.aload_n 0, 1) := by decide +kernel
theorem dX0_init_30 : decode cX0_init 30 = .ok (.bipush 40, 2) := by decide +kernel
theorem dX0_init_32 : decode cX0_init 32 = .ok (.newarray .int, 2) := by decide +kernel
theorem dX0_init_34 : decode cX0_init 34 = .ok (.putfield 23, 3) := by decide +kernel
theorem dX0_init_37 : decode cX0_init 37 = .ok (.aload_n 0, 1) := by decide +kernel
theorem dX0_init_38 : decode cX0_init 38 = .ok (.bipush 40, 2) := by decide +kernel
theorem dX0_init_40 : decode cX0_init 40 = .ok (.newarray .int, 2) := by decide +kernel
theorem dX0_init_42 : decode cX0_init 42 = .ok (.putfield 26, 3) := by decide +kernel
theorem dX0_init_45 : decode cX0_init 45 = .ok (.aload_n 0, 1) := by decide +kernel
theorem dX0_init_46 : decode cX0_init 46 = .ok (.aload_n 1, 1) := by decide +kernel
theorem dX0_init_47 : decode cX0_init 47 = .ok (.putfield 29, 3) := by decide +kernel
theorem dX0_init_50 : decode cX0_init 50 = .ok (.return_, 1) := by decide +kernel
theorem dX0_row_0 : decode cX0_row 0 = .ok (.iload_n 0, 1) := by decide +kernel
theorem dX0_row_1 : decode cX0_row 1 = .ok (.bipush 32, 2) := by decide +kernel
theorem dX0_row_3 : decode cX0_row 3 = .ok (.imul, 1) := by decide +kernel
theorem dX0_row_4 : decode cX0_row 4 = .ok (.iload_n 1, 1) := by decide +kernel
theorem dX0_row_5 : decode cX0_row 5 = .ok (.iadd, 1) := by decide +kernel
theorem dX0_row_6 : decode cX0_row 6 = .ok (.bipush 9, 2) := by decide +kernel
theorem dX0_row_8 : decode cX0_row 8 = .ok (.imul, 1) := by decide +kernel
theorem dX0_row_9 : decode cX0_row 9 = .ok (.ireturn, 1) := by decide +kernel
theorem dX0_stepsToFail_0 : decode cX0_stepsToFail 0 = .ok (.aload_n 0, 1) := by decide +kernel
theorem dX0_stepsToFail_1 : decode cX0_stepsToFail 1 = .ok (.getfield 29, 3) := by decide +kernel
theorem dX0_stepsToFail_4 : decode cX0_stepsToFail 4 = .ok (.invokevirtual 33, 3) := by decide +kernel
theorem dX0_stepsToFail_7 : decode cX0_stepsToFail 7 = .ok (.istore_n 1, 1) := by decide +kernel
theorem dX0_stepsToFail_8 : decode cX0_stepsToFail 8 = .ok (.iload_n 1, 1) := by decide +kernel
theorem dX0_stepsToFail_9 : decode cX0_stepsToFail 9 = .ok (.ifCond .ge 8, 3) := by decide +kernel
theorem dX0_stepsToFail_12 : decode cX0_stepsToFail 12 = .ok (.ldc 37, 2) := by decide +kernel
theorem dX0_stepsToFail_14 : decode cX0_stepsToFail 14 = .ok (.goto 16, 3) := by decide +kernel
theorem dX0_stepsToFail_17 : decode cX0_stepsToFail 17 = .ok (.aload_n 0, 1) := by decide +kernel
theorem dX0_stepsToFail_18 : decode cX0_stepsToFail 18 = .ok (.getfield 13, 3) := by decide +kernel
theorem dX0_stepsToFail_21 : decode cX0_stepsToFail 21 = .ok (.iload_n 1, 1) := by decide +kernel
theorem dX0_stepsToFail_22 : decode cX0_stepsToFail 22 = .ok (.iconst 0, 1) := by decide +kernel
theorem dX0_stepsToFail_23 : decode cX0_stepsToFail 23 = .ok (.invokestatic 38, 3) := by decide +kernel
theorem dX0_stepsToFail_26 : decode cX0_stepsToFail 26 = .ok (.bipush 8, 2) := by decide +kernel
theorem dX0_stepsToFail_28 : decode cX0_stepsToFail 28 = .ok (.iadd, 1) := by decide +kernel
theorem dX0_stepsToFail_29 : decode cX0_stepsToFail 29 = .ok (.iaload, 1) := by decide +kernel
theorem dX0_stepsToFail_30 : decode cX0_stepsToFail 30 = .ok (.ireturn, 1) := by decide +kernel
theorem dX0_solve_0 : decode cX0_solve 0 = .ok (.aload_n 0, 1) := by decide +kernel
theorem dX0_solve_1 : decode cX0_solve 1 = .ok (.invokevirtual 42, 3) := by decide +kernel
theorem dX0_solve_4 : decode cX0_solve 4 = .ok (.aload_n 0, 1) := by decide +kernel
theorem dX0_solve_5 : decode cX0_solve 5 = .ok (.getfield 29, 3) := by decide +kernel
theorem dX0_solve_8 : decode cX0_solve 8 = .ok (.getfield 45, 3) := by decide +kernel
theorem dX0_solve_11 : decode cX0_solve 11 = .ok (.iconst 0, 1) := by decide +kernel
theorem dX0_solve_12 : decode cX0_solve 12 = .ok (.invokestatic 38, 3) := by decide +kernel
theorem dX0_solve_15 : decode cX0_solve 15 = .ok (.istore_n 1, 1) := by decide +kernel
theorem dX0_solve_16 : decode cX0_solve 16 = .ok (.iconst 0, 1) := by decide +kernel
theorem dX0_solve_17 : decode cX0_solve 17 = .ok (.istore_n 2, 1) := by decide +kernel
theorem dX0_solve_18 : decode cX0_solve 18 = .ok (.iload_n 2, 1) := by decide +kernel
theorem dX0_solve_19 : decode cX0_solve 19 = .ok (.iload_n 1, 1) := by decide +kernel
theorem dX0_solve_20 : decode cX0_solve 20 = .ok (.if_icmp .ge 17, 3) := by decide +kernel
theorem dX0_solve_23 : decode cX0_solve 23 = .ok (.aload_n 0, 1) := by decide +kernel
theorem dX0_solve_24 : decode cX0_solve 24 = .ok (.getfield 13, 3) := by decide +kernel
theorem dX0_solve_27 : decode cX0_solve 27 = .ok (.iload_n 2, 1) := by decide +kernel
theorem dX0_solve_28 : decode cX0_solve 28 = .ok (.ldc 37, 2) := by decide +kernel
theorem dX0_solve_30 : decode cX0_solve 30 = .ok (.iastore, 1) := by decide +kernel
theorem dX0_solve_31 : decode cX0_solve 31 = .ok (.iinc 2 1, 3) := by decide +kernel
theorem dX0_solve_34 : decode cX0_solve 34 = .ok (.goto (-16), 3) := by decide +kernel
theorem dX0_solve_37 : decode cX0_solve 37 = .ok (.aload_n 0, 1) := by decide +kernel
theorem dX0_solve_38 : decode cX0_solve 38 = .ok (.getfield 23, 3) := by decide +kernel
theorem dX0_solve_41 : decode cX0_solve 41 = .ok (.iconst 0, 1) := by decide +kernel
theorem dX0_solve_42 : decode cX0_solve 42 = .ok (.invokestatic 49, 3) := by decide +kernel
theorem dX0_solve_45 : decode cX0_solve 45 = .ok (.aload_n 0, 1) := by decide +kernel
theorem dX0_solve_46 : decode cX0_solve 46 = .ok (.getfield 26, 3) := by decide +kernel
theorem dX0_solve_49 : decode cX0_solve 49 = .ok (.iconst 0, 1) := by decide +kernel
theorem dX0_solve_50 : decode cX0_solve 50 = .ok (.invokestatic 49, 3) := by decide +kernel
theorem dX0_solve_53 : decode cX0_solve 53 = .ok (.aload_n 0, 1) := by decide +kernel
theorem dX0_solve_54 : decode cX0_solve 54 = .ok (.iconst 0, 1) := by decide +kernel
theorem dX0_solve_55 : decode cX0_solve 55 = .ok (.putfield 55, 3) := by decide +kernel
theorem dX0_solve_58 : decode cX0_solve 58 = .ok (.iconst 1, 1) := by decide +kernel
theorem dX0_solve_59 : decode cX0_solve 59 = .ok (.istore_n 2, 1) := by decide +kernel
theorem dX0_solve_60 : decode cX0_solve 60 = .ok (.iconst 0, 1) := by decide +kernel
theorem dX0_solve_61 : decode cX0_solve 61 = .ok (.istore_n 3, 1) := by decide +kernel
theorem dX0_solve_62 : decode cX0_solve 62 = .ok (.iload_n 3, 1) := by decide +kernel
theorem dX0_solve_63 : decode cX0_solve 63 = .ok (.ldc 58, 2) := by decide +kernel
theorem dX0_solve_65 : decode cX0_solve 65 = .ok (.if_icmp .ge 63, 3) := by decide +kernel
theorem dX0_solve_68 : decode cX0_solve 68 = .ok (.iload_n 2, 1) := by decide +kernel
theorem dX0_solve_69 : decode cX0_solve 69 = .ok (.ifCond .eq 59, 3) := by decide +kernel
theorem dX0_solve_72 : decode cX0_solve 72 = .ok (.iconst 0, 1) := by decide +kernel
theorem dX0_solve_73 : decode cX0_solve 73 = .ok (.istore_n 2, 1) := by decide +kernel
theorem dX0_solve_74 : decode cX0_solve 74 = .ok (.aload_n 0, 1) := by decide +kernel
theorem dX0_solve_75 : decode cX0_solve 75 = .ok (.getfield 29, 3) := by decide +kernel
theorem dX0_solve_78 : decode cX0_solve 78 = .ok (.getfield 45, 3) := by decide +kernel
theorem dX0_solve_81 : decode cX0_solve 81 = .ok (.iconst 1, 1) := by decide +kernel
theorem dX0_solve_82 : decode cX0_solve 82 = .ok (.isub, 1) := by decide +kernel
theorem dX0_solve_83 : decode cX0_solve 83 = .ok (.istore 4, 2) := by decide +kernel
theorem dX0_solve_85 : decode cX0_solve 85 = .ok (.iload 4, 2) := by decide +kernel
theorem dX0_solve_87 : decode cX0_solve 87 = .ok (.ifCond .lt 35, 3) := by decide +kernel
theorem dX0_solve_90 : decode cX0_solve 90 = .ok (.iload_n 2, 1) := by decide +kernel
theorem dX0_solve_91 : decode cX0_solve 91 = .ok (.aload_n 0, 1) := by decide +kernel
theorem dX0_solve_92 : decode cX0_solve 92 = .ok (.iload 4, 2) := by decide +kernel
theorem dX0_solve_94 : decode cX0_solve 94 = .ok (.invokevirtual 59, 3) := by decide +kernel
theorem dX0_solve_97 : decode cX0_solve 97 = .ok (.ifCond .eq 16, 3) := by decide +kernel
theorem dX0_solve_100 : decode cX0_solve 100 = .ok (.aload_n 0, 1) := by decide +kernel
theorem dX0_solve_101 : decode cX0_solve 101 = .ok (.iload 4, 2) := by decide +kernel
theorem dX0_solve_103 : decode cX0_solve 103 = .ok (.invokevirtual 63, 3) := by decide +kernel
theorem dX0_solve_106 : decode cX0_solve 106 = .ok (.ifCond .eq 7, 3) := by decide +kernel
theorem dX0_solve_109 : decode cX0_solve 109 = .ok (.iconst 1, 1) := by decide +kernel
theorem dX0_solve_110 : decode cX0_solve 110 = .ok (.goto 4, 3) := by decide +kernel
theorem dX0_solve_113 : decode cX0_solve 113 = .ok (.iconst 0, 1) := by decide +kernel
theorem dX0_solve_114 : decode cX0_solve 114 = .ok (.ior, 1) := by decide +kernel
theorem dX0_solve_115 : decode cX0_solve 115 = .ok (.istore_n 2, 1) := by decide +kernel
theorem dX0_solve_116 : decode cX0_solve 116 = .ok (.iinc 4 (-1), 3) := by decide +kernel
theorem dX0_solve_119 : decode cX0_solve 119 = .ok (.goto (-34), 3) := by decide +kernel
theorem dX0_solve_122 : decode cX0_solve 122 = .ok (.iinc 3 1, 3) := by decide +kernel
theorem dX0_solve_125 : decode cX0_solve 125 = .ok (.goto (-63), 3) := by decide +kernel
theorem dX0_solve_128 : decode cX0_solve 128 = .ok (.return_, 1) := by decide +kernel
theorem dX0_reachAll_0 : decode cX0_reachAll 0 = .ok (.aload_n 0, 1) := by decide +kernel
theorem dX0_reachAll_1 : decode cX0_reachAll 1 = .ok (.getfield 17, 3) := by decide +kernel
theorem dX0_reachAll_4 : decode cX0_reachAll 4 = .ok (.iconst 0, 1) := by decide +kernel
theorem dX0_reachAll_5 : decode cX0_reachAll 5 = .ok (.invokestatic 49, 3) := by decide +kernel
theorem dX0_reachAll_8 : decode cX0_reachAll 8 = .ok (.aload_n 0, 1) := by decide +kernel
theorem dX0_reachAll_9 : decode cX0_reachAll 9 = .ok (.getfield 20, 3) := by decide +kernel
theorem dX0_reachAll_12 : decode cX0_reachAll 12 = .ok (.iconst 0, 1) := by decide +kernel
theorem dX0_reachAll_13 : decode cX0_reachAll 13 = .ok (.invokestatic 49, 3) := by decide +kernel
theorem dX0_reachAll_16 : decode cX0_reachAll 16 = .ok (.aload_n 0, 1) := by decide +kernel
theorem dX0_reachAll_17 : decode cX0_reachAll 17 = .ok (.getfield 29, 3) := by decide +kernel
theorem dX0_reachAll_20 : decode cX0_reachAll 20 = .ok (.invokevirtual 33, 3) := by decide +kernel
theorem dX0_reachAll_23 : decode cX0_reachAll 23 = .ok (.istore_n 1, 1) := by decide +kernel
theorem dX0_reachAll_24 : decode cX0_reachAll 24 = .ok (.iload_n 1, 1) := by decide +kernel
theorem dX0_reachAll_25 : decode cX0_reachAll 25 = .ok (.ifCond .ge 4, 3) := by decide +kernel
theorem dX0_reachAll_28 : decode cX0_reachAll 28 = .ok (.return_, 1) := by decide +kernel
theorem dX0_reachAll_29 : decode cX0_reachAll 29 = .ok (.aload_n 0, 1) := by decide +kernel
theorem dX0_reachAll_30 : decode cX0_reachAll 30 = .ok (.getfield 17, 3) := by decide +kernel
theorem dX0_reachAll_33 : decode cX0_reachAll 33 = .ok (.iload_n 1, 1) := by decide +kernel
theorem dX0_reachAll_34 : decode cX0_reachAll 34 = .ok (.iconst 1, 1) := by decide +kernel
theorem dX0_reachAll_35 : decode cX0_reachAll 35 = .ok (.iastore, 1) := by decide +kernel
theorem dX0_reachAll_36 : decode cX0_reachAll 36 = .ok (.iconst 1, 1) := by decide +kernel
theorem dX0_reachAll_37 : decode cX0_reachAll 37 = .ok (.istore_n 2, 1) := by decide +kernel
theorem dX0_reachAll_38 : decode cX0_reachAll 38 = .ok (.iconst 0, 1) := by decide +kernel
theorem dX0_reachAll_39 : decode cX0_reachAll 39 = .ok (.istore_n 3, 1) := by decide +kernel
theorem dX0_reachAll_40 : decode cX0_reachAll 40 = .ok (.iload_n 3, 1) := by decide +kernel
theorem dX0_reachAll_41 : decode cX0_reachAll 41 = .ok (.ldc 58, 2) := by decide +kernel
theorem dX0_reachAll_43 : decode cX0_reachAll 43 = .ok (.if_icmp .ge 68, 3) := by decide +kernel
theorem dX0_reachAll_46 : decode cX0_reachAll 46 = .ok (.iload_n 2, 1) := by decide +kernel
theorem dX0_reachAll_47 : decode cX0_reachAll 47 = .ok (.ifCond .eq 64, 3) := by decide +kernel
theorem dX0_reachAll_50 : decode cX0_reachAll 50 = .ok (.iconst 0, 1) := by decide +kernel
theorem dX0_reachAll_51 : decode cX0_reachAll 51 = .ok (.istore_n 2, 1) := by decide +kernel
theorem dX0_reachAll_52 : decode cX0_reachAll 52 = .ok (.iconst 0, 1) := by decide +kernel
theorem dX0_reachAll_53 : decode cX0_reachAll 53 = .ok (.istore 4, 2) := by decide +kernel
theorem dX0_reachAll_55 : decode cX0_reachAll 55 = .ok (.iload 4, 2) := by decide +kernel
theorem dX0_reachAll_57 : decode cX0_reachAll 57 = .ok (.aload_n 0, 1) := by decide +kernel
theorem dX0_reachAll_58 : decode cX0_reachAll 58 = .ok (.getfield 29, 3) := by decide +kernel
theorem dX0_reachAll_61 : decode cX0_reachAll 61 = .ok (.getfield 45, 3) := by decide +kernel
theorem dX0_reachAll_64 : decode cX0_reachAll 64 = .ok (.if_icmp .ge 41, 3) := by decide +kernel
theorem dX0_reachAll_67 : decode cX0_reachAll 67 = .ok (.iload_n 2, 1) := by decide +kernel
theorem dX0_reachAll_68 : decode cX0_reachAll 68 = .ok (.aload_n 0, 1) := by decide +kernel
theorem dX0_reachAll_69 : decode cX0_reachAll 69 = .ok (.getfield 29, 3) := by decide +kernel
theorem dX0_reachAll_72 : decode cX0_reachAll 72 = .ok (.getfield 66, 3) := by decide +kernel
theorem dX0_reachAll_75 : decode cX0_reachAll 75 = .ok (.iload 4, 2) := by decide +kernel
theorem dX0_reachAll_77 : decode cX0_reachAll 77 = .ok (.iaload, 1) := by decide +kernel
theorem dX0_reachAll_78 : decode cX0_reachAll 78 = .ok (.iconst 3, 1) := by decide +kernel
theorem dX0_reachAll_79 : decode cX0_reachAll 79 = .ok (.if_icmp .ne 12, 3) := by decide +kernel
theorem dX0_reachAll_82 : decode cX0_reachAll 82 = .ok (.aload_n 0, 1) := by decide +kernel
theorem dX0_reachAll_83 : decode cX0_reachAll 83 = .ok (.iload 4, 2) := by decide +kernel
theorem dX0_reachAll_85 : decode cX0_reachAll 85 = .ok (.invokevirtual 69, 3) := by decide +kernel
theorem dX0_reachAll_88 : decode cX0_reachAll 88 = .ok (.goto 9, 3) := by decide +kernel
theorem dX0_reachAll_91 : decode cX0_reachAll 91 = .ok (.aload_n 0, 1) := by decide +kernel
theorem dX0_reachAll_92 : decode cX0_reachAll 92 = .ok (.iload 4, 2) := by decide +kernel
theorem dX0_reachAll_94 : decode cX0_reachAll 94 = .ok (.invokevirtual 72, 3) := by decide +kernel
theorem dX0_reachAll_97 : decode cX0_reachAll 97 = .ok (.ior, 1) := by decide +kernel
theorem dX0_reachAll_98 : decode cX0_reachAll 98 = .ok (.istore_n 2, 1) := by decide +kernel
theorem dX0_reachAll_99 : decode cX0_reachAll 99 = .ok (.iinc 4 1, 3) := by decide +kernel
theorem dX0_reachAll_102 : decode cX0_reachAll 102 = .ok (.goto (-47), 3) := by decide +kernel
theorem dX0_reachAll_105 : decode cX0_reachAll 105 = .ok (.iinc 3 1, 3) := by decide +kernel
theorem dX0_reachAll_108 : decode cX0_reachAll 108 = .ok (.goto (-68), 3) := by decide +kernel
theorem dX0_reachAll_111 : decode cX0_reachAll 111 = .ok (.return_, 1) := by decide +kernel
theorem dX0_reachFrom_0 : decode cX0_reachFrom 0 = .ok (.iconst 0, 1) := by decide +kernel
theorem dX0_reachFrom_1 : decode cX0_reachFrom 1 = .ok (.istore_n 2, 1) := by decide +kernel
theorem dX0_reachFrom_2 : decode cX0_reachFrom 2 = .ok (.iconst 0, 1) := by decide +kernel
theorem dX0_reachFrom_3 : decode cX0_reachFrom 3 = .ok (.istore_n 3, 1) := by decide +kernel
theorem dX0_reachFrom_4 : decode cX0_reachFrom 4 = .ok (.iload_n 3, 1) := by decide +kernel
theorem dX0_reachFrom_5 : decode cX0_reachFrom 5 = .ok (.iconst 1, 1) := by decide +kernel
theorem dX0_reachFrom_6 : decode cX0_reachFrom 6 = .ok (.if_icmp .gt 106, 3) := by decide +kernel
theorem dX0_reachFrom_9 : decode cX0_reachFrom 9 = .ok (.aload_n 0, 1) := by decide +kernel
theorem dX0_reachFrom_10 : decode cX0_reachFrom 10 = .ok (.getfield 17, 3) := by decide +kernel
theorem dX0_reachFrom_13 : decode cX0_reachFrom 13 = .ok (.iload_n 1, 1) := by decide +kernel
theorem dX0_reachFrom_14 : decode cX0_reachFrom 14 = .ok (.iaload, 1) := by decide +kernel
theorem dX0_reachFrom_15 : decode cX0_reachFrom 15 = .ok (.aload_n 0, 1) := by decide +kernel
theorem dX0_reachFrom_16 : decode cX0_reachFrom 16 = .ok (.getfield 29, 3) := by decide +kernel
theorem dX0_reachFrom_19 : decode cX0_reachFrom 19 = .ok (.iload_n 1, 1) := by decide +kernel
theorem dX0_reachFrom_20 : decode cX0_reachFrom 20 = .ok (.iload_n 3, 1) := by decide +kernel
theorem dX0_reachFrom_21 : decode cX0_reachFrom 21 = .ok (.invokevirtual 75, 3) := by decide +kernel
theorem dX0_reachFrom_24 : decode cX0_reachFrom 24 = .ok (.iand, 1) := by decide +kernel
theorem dX0_reachFrom_25 : decode cX0_reachFrom 25 = .ok (.istore 4, 2) := by decide +kernel
theorem dX0_reachFrom_27 : decode cX0_reachFrom 27 = .ok (.iconst 0, 1) := by decide +kernel
theorem dX0_reachFrom_28 : decode cX0_reachFrom 28 = .ok (.istore 5, 2) := by decide +kernel
theorem dX0_reachFrom_30 : decode cX0_reachFrom 30 = .ok (.iconst 0, 1) := by decide +kernel
theorem dX0_reachFrom_31 : decode cX0_reachFrom 31 = .ok (.istore 6, 2) := by decide +kernel
theorem dX0_reachFrom_33 : decode cX0_reachFrom 33 = .ok (.iload 4, 2) := by decide +kernel
theorem dX0_reachFrom_35 : decode cX0_reachFrom 35 = .ok (.ifCond .eq 44, 3) := by decide +kernel
theorem dX0_reachFrom_38 : decode cX0_reachFrom 38 = .ok (.iload 6, 2) := by decide +kernel
theorem dX0_reachFrom_40 : decode cX0_reachFrom 40 = .ok (.bipush 32, 2) := by decide +kernel
theorem dX0_reachFrom_42 : decode cX0_reachFrom 42 = .ok (.if_icmp .ge 37, 3) := by decide +kernel
theorem dX0_reachFrom_45 : decode cX0_reachFrom 45 = .ok (.iload 4, 2) := by decide +kernel
theorem dX0_reachFrom_47 : decode cX0_reachFrom 47 = .ok (.iload 6, 2) := by decide +kernel
theorem dX0_reachFrom_49 : decode cX0_reachFrom 49 = .ok (.iushr, 1) := by decide +kernel
theorem dX0_reachFrom_50 : decode cX0_reachFrom 50 = .ok (.iconst 1, 1) := by decide +kernel
theorem dX0_reachFrom_51 : decode cX0_reachFrom 51 = .ok (.iand, 1) := by decide +kernel
theorem dX0_reachFrom_52 : decode cX0_reachFrom 52 = .ok (.ifCond .eq 21, 3) := by decide +kernel
theorem dX0_reachFrom_55 : decode cX0_reachFrom 55 = .ok (.iload 5, 2) := by decide +kernel
theorem dX0_reachFrom_57 : decode cX0_reachFrom 57 = .ok (.iconst 1, 1) := by decide +kernel
theorem dX0_reachFrom_58 : decode cX0_reachFrom 58 = .ok (.aload_n 0, 1) := by decide +kernel
theorem dX0_reachFrom_59 : decode cX0_reachFrom 59 = .ok (.getfield 29, 3) := by decide +kernel
theorem dX0_reachFrom_62 : decode cX0_reachFrom 62 = .ok (.iload_n 1, 1) := by decide +kernel
theorem dX0_reachFrom_63 : decode cX0_reachFrom 63 = .ok (.iload 6, 2) := by decide +kernel
theorem dX0_reachFrom_65 : decode cX0_reachFrom 65 = .ok (.iload_n 3, 1) := by decide +kernel
theorem dX0_reachFrom_66 : decode cX0_reachFrom 66 = .ok (.invokevirtual 78, 3) := by decide +kernel
theorem dX0_reachFrom_69 : decode cX0_reachFrom 69 = .ok (.ishl, 1) := by decide +kernel
theorem dX0_reachFrom_70 : decode cX0_reachFrom 70 = .ok (.ior, 1) := by decide +kernel
theorem dX0_reachFrom_71 : decode cX0_reachFrom 71 = .ok (.istore 5, 2) := by decide +kernel
theorem dX0_reachFrom_73 : decode cX0_reachFrom 73 = .ok (.iinc 6 1, 3) := by decide +kernel
theorem dX0_reachFrom_76 : decode cX0_reachFrom 76 = .ok (.goto (-43), 3) := by decide +kernel
theorem dX0_reachFrom_79 : decode cX0_reachFrom 79 = .ok (.iload_n 2, 1) := by decide +kernel
theorem dX0_reachFrom_80 : decode cX0_reachFrom 80 = .ok (.aload_n 0, 1) := by decide +kernel
theorem dX0_reachFrom_81 : decode cX0_reachFrom 81 = .ok (.aload_n 0, 1) := by decide +kernel
theorem dX0_reachFrom_82 : decode cX0_reachFrom 82 = .ok (.getfield 29, 3) := by decide +kernel
theorem dX0_reachFrom_85 : decode cX0_reachFrom 85 = .ok (.iload_n 1, 1) := by decide +kernel
theorem dX0_reachFrom_86 : decode cX0_reachFrom 86 = .ok (.iload_n 3, 1) := by decide +kernel
theorem dX0_reachFrom_87 : decode cX0_reachFrom 87 = .ok (.invokevirtual 82, 3) := by decide +kernel
theorem dX0_reachFrom_90 : decode cX0_reachFrom 90 = .ok (.iload 5, 2) := by decide +kernel
theorem dX0_reachFrom_92 : decode cX0_reachFrom 92 = .ok (.aload_n 0, 1) := by decide +kernel
theorem dX0_reachFrom_93 : decode cX0_reachFrom 93 = .ok (.getfield 29, 3) := by decide +kernel
theorem dX0_reachFrom_96 : decode cX0_reachFrom 96 = .ok (.getfield 85, 3) := by decide +kernel
theorem dX0_reachFrom_99 : decode cX0_reachFrom 99 = .ok (.iload_n 1, 1) := by decide +kernel
theorem dX0_reachFrom_100 : decode cX0_reachFrom 100 = .ok (.iaload, 1) := by decide +kernel
theorem dX0_reachFrom_101 : decode cX0_reachFrom 101 = .ok (.invokevirtual 88, 3) := by decide +kernel
theorem dX0_reachFrom_104 : decode cX0_reachFrom 104 = .ok (.ior, 1) := by decide +kernel
theorem dX0_reachFrom_105 : decode cX0_reachFrom 105 = .ok (.istore_n 2, 1) := by decide +kernel
theorem dX0_reachFrom_106 : decode cX0_reachFrom 106 = .ok (.iinc 3 1, 3) := by decide +kernel
theorem dX0_reachFrom_109 : decode cX0_reachFrom 109 = .ok (.goto (-105), 3) := by decide +kernel
theorem dX0_reachFrom_112 : decode cX0_reachFrom 112 = .ok (.iload_n 2, 1) := by decide +kernel
theorem dX0_reachFrom_113 : decode cX0_reachFrom 113 = .ok (.ireturn, 1) := by decide +kernel
theorem dX0_reachByCall_0 : decode cX0_reachByCall 0 = .ok (.aload_n 0, 1) := by decide +kernel
theorem dX0_reachByCall_1 : decode cX0_reachByCall 1 = .ok (.getfield 29, 3) := by decide +kernel
theorem dX0_reachByCall_4 : decode cX0_reachByCall 4 = .ok (.getfield 92, 3) := by decide +kernel
theorem dX0_reachByCall_7 : decode cX0_reachByCall 7 = .ok (.iload_n 1, 1) := by decide +kernel
theorem dX0_reachByCall_8 : decode cX0_reachByCall 8 = .ok (.iaload, 1) := by decide +kernel
theorem dX0_reachByCall_9 : decode cX0_reachByCall 9 = .ok (.istore_n 2, 1) := by decide +kernel
theorem dX0_reachByCall_10 : decode cX0_reachByCall 10 = .ok (.aload_n 0, 1) := by decide +kernel
theorem dX0_reachByCall_11 : decode cX0_reachByCall 11 = .ok (.getfield 29, 3) := by decide +kernel
theorem dX0_reachByCall_14 : decode cX0_reachByCall 14 = .ok (.iload_n 1, 1) := by decide +kernel
theorem dX0_reachByCall_15 : decode cX0_reachByCall 15 = .ok (.iconst 1, 1) := by decide +kernel
theorem dX0_reachByCall_16 : decode cX0_reachByCall 16 = .ok (.invokevirtual 82, 3) := by decide +kernel
theorem dX0_reachByCall_19 : decode cX0_reachByCall 19 = .ok (.istore_n 3, 1) := by decide +kernel
theorem dX0_reachByCall_20 : decode cX0_reachByCall 20 = .ok (.aload_n 0, 1) := by decide +kernel
theorem dX0_reachByCall_21 : decode cX0_reachByCall 21 = .ok (.getfield 29, 3) := by decide +kernel
theorem dX0_reachByCall_24 : decode cX0_reachByCall 24 = .ok (.getfield 95, 3) := by decide +kernel
theorem dX0_reachByCall_27 : decode cX0_reachByCall 27 = .ok (.iload_n 2, 1) := by decide +kernel
theorem dX0_reachByCall_28 : decode cX0_reachByCall 28 = .ok (.iaload, 1) := by decide +kernel
theorem dX0_reachByCall_29 : decode cX0_reachByCall 29 = .ok (.istore 4, 2) := by decide +kernel
theorem dX0_reachByCall_31 : decode cX0_reachByCall 31 = .ok (.iload 4, 2) := by decide +kernel
theorem dX0_reachByCall_33 : decode cX0_reachByCall 33 = .ok (.ifCond .ge 24, 3) := by decide +kernel
theorem dX0_reachByCall_36 : decode cX0_reachByCall 36 = .ok (.aload_n 0, 1) := by decide +kernel
theorem dX0_reachByCall_37 : decode cX0_reachByCall 37 = .ok (.iload_n 3, 1) := by decide +kernel
theorem dX0_reachByCall_38 : decode cX0_reachByCall 38 = .ok (.aload_n 0, 1) := by decide +kernel
theorem dX0_reachByCall_39 : decode cX0_reachByCall 39 = .ok (.getfield 17, 3) := by decide +kernel
theorem dX0_reachByCall_42 : decode cX0_reachByCall 42 = .ok (.iload_n 1, 1) := by decide +kernel
theorem dX0_reachByCall_43 : decode cX0_reachByCall 43 = .ok (.iaload, 1) := by decide +kernel
theorem dX0_reachByCall_44 : decode cX0_reachByCall 44 = .ok (.aload_n 0, 1) := by decide +kernel
theorem dX0_reachByCall_45 : decode cX0_reachByCall 45 = .ok (.getfield 29, 3) := by decide +kernel
theorem dX0_reachByCall_48 : decode cX0_reachByCall 48 = .ok (.getfield 85, 3) := by decide +kernel
theorem dX0_reachByCall_51 : decode cX0_reachByCall 51 = .ok (.iload_n 1, 1) := by decide +kernel
theorem dX0_reachByCall_52 : decode cX0_reachByCall 52 = .ok (.iaload, 1) := by decide +kernel
theorem dX0_reachByCall_53 : decode cX0_reachByCall 53 = .ok (.invokevirtual 88, 3) := by decide +kernel
theorem dX0_reachByCall_56 : decode cX0_reachByCall 56 = .ok (.ireturn, 1) := by decide +kernel
theorem dX0_reachByCall_57 : decode cX0_reachByCall 57 = .ok (.aload_n 0, 1) := by decide +kernel
theorem dX0_reachByCall_58 : decode cX0_reachByCall 58 = .ok (.iload 4, 2) := by decide +kernel
theorem dX0_reachByCall_60 : decode cX0_reachByCall 60 = .ok (.aload_n 0, 1) := by decide +kernel
theorem dX0_reachByCall_61 : decode cX0_reachByCall 61 = .ok (.getfield 17, 3) := by decide +kernel
theorem dX0_reachByCall_64 : decode cX0_reachByCall 64 = .ok (.iload_n 1, 1) := by decide +kernel
theorem dX0_reachByCall_65 : decode cX0_reachByCall 65 = .ok (.iaload, 1) := by decide +kernel
theorem dX0_reachByCall_66 : decode cX0_reachByCall 66 = .ok (.invokestatic 98, 3) := by decide +kernel
theorem dX0_reachByCall_69 : decode cX0_reachByCall 69 = .ok (.iload_n 2, 1) := by decide +kernel
theorem dX0_reachByCall_70 : decode cX0_reachByCall 70 = .ok (.invokevirtual 88, 3) := by decide +kernel
theorem dX0_reachByCall_73 : decode cX0_reachByCall 73 = .ok (.istore 5, 2) := by decide +kernel
theorem dX0_reachByCall_75 : decode cX0_reachByCall 75 = .ok (.iconst 0, 1) := by decide +kernel
theorem dX0_reachByCall_76 : decode cX0_reachByCall 76 = .ok (.istore 6, 2) := by decide +kernel
theorem dX0_reachByCall_78 : decode cX0_reachByCall 78 = .ok (.iconst 0, 1) := by decide +kernel
theorem dX0_reachByCall_79 : decode cX0_reachByCall 79 = .ok (.istore 7, 2) := by decide +kernel
theorem dX0_reachByCall_81 : decode cX0_reachByCall 81 = .ok (.iload 7, 2) := by decide +kernel
theorem dX0_reachByCall_83 : decode cX0_reachByCall 83 = .ok (.bipush 32, 2) := by decide +kernel
theorem dX0_reachByCall_85 : decode cX0_reachByCall 85 = .ok (.if_icmp .ge 39, 3) := by decide +kernel
theorem dX0_reachByCall_88 : decode cX0_reachByCall 88 = .ok (.aload_n 0, 1) := by decide +kernel
theorem dX0_reachByCall_89 : decode cX0_reachByCall 89 = .ok (.getfield 17, 3) := by decide +kernel
theorem dX0_reachByCall_92 : decode cX0_reachByCall 92 = .ok (.iload_n 1, 1) := by decide +kernel
theorem dX0_reachByCall_93 : decode cX0_reachByCall 93 = .ok (.iaload, 1) := by decide +kernel
theorem dX0_reachByCall_94 : decode cX0_reachByCall 94 = .ok (.iload 7, 2) := by decide +kernel
theorem dX0_reachByCall_96 : decode cX0_reachByCall 96 = .ok (.iushr, 1) := by decide +kernel
theorem dX0_reachByCall_97 : decode cX0_reachByCall 97 = .ok (.sipush 255, 3) := by decide +kernel
theorem dX0_reachByCall_100 : decode cX0_reachByCall 100 = .ok (.iand, 1) := by decide +kernel
theorem dX0_reachByCall_101 : decode cX0_reachByCall 101 = .ok (.ifCond .eq 17, 3) := by decide +kernel
theorem dX0_reachByCall_104 : decode cX0_reachByCall 104 = .ok (.iload 6, 2) := by decide +kernel
theorem dX0_reachByCall_106 : decode cX0_reachByCall 106 = .ok (.aload_n 0, 1) := by decide +kernel
theorem dX0_reachByCall_107 : decode cX0_reachByCall 107 = .ok (.getfield 20, 3) := by decide +kernel
theorem dX0_reachByCall_110 : decode cX0_reachByCall 110 = .ok (.iload_n 2, 1) := by decide +kernel
theorem dX0_reachByCall_111 : decode cX0_reachByCall 111 = .ok (.iaload, 1) := by decide +kernel
theorem dX0_reachByCall_112 : decode cX0_reachByCall 112 = .ok (.iload 7, 2) := by decide +kernel
theorem dX0_reachByCall_114 : decode cX0_reachByCall 114 = .ok (.ishl, 1) := by decide +kernel
theorem dX0_reachByCall_115 : decode cX0_reachByCall 115 = .ok (.ior, 1) := by decide +kernel
theorem dX0_reachByCall_116 : decode cX0_reachByCall 116 = .ok (.istore 6, 2) := by decide +kernel
theorem dX0_reachByCall_118 : decode cX0_reachByCall 118 = .ok (.iinc 7 8, 3) := by decide +kernel
theorem dX0_reachByCall_121 : decode cX0_reachByCall 121 = .ok (.goto (-40), 3) := by decide +kernel
theorem dX0_reachByCall_124 : decode cX0_reachByCall 124 = .ok (.aload_n 0, 1) := by decide +kernel
theorem dX0_reachByCall_125 : decode cX0_reachByCall 125 = .ok (.iload_n 3, 1) := by decide +kernel
theorem dX0_reachByCall_126 : decode cX0_reachByCall 126 = .ok (.iload 6, 2) := by decide +kernel
theorem dX0_reachByCall_128 : decode cX0_reachByCall 128 = .ok (.aload_n 0, 1) := by decide +kernel
theorem dX0_reachByCall_129 : decode cX0_reachByCall 129 = .ok (.getfield 29, 3) := by decide +kernel
theorem dX0_reachByCall_132 : decode cX0_reachByCall 132 = .ok (.getfield 85, 3) := by decide +kernel
theorem dX0_reachByCall_135 : decode cX0_reachByCall 135 = .ok (.iload_n 1, 1) := by decide +kernel
theorem dX0_reachByCall_136 : decode cX0_reachByCall 136 = .ok (.iaload, 1) := by decide +kernel
theorem dX0_reachByCall_137 : decode cX0_reachByCall 137 = .ok (.invokevirtual 88, 3) := by decide +kernel
theorem dX0_reachByCall_140 : decode cX0_reachByCall 140 = .ok (.ifCond .ne 8, 3) := by decide +kernel
theorem dX0_reachByCall_143 : decode cX0_reachByCall 143 = .ok (.iload 5, 2) := by decide +kernel
theorem dX0_reachByCall_145 : decode cX0_reachByCall 145 = .ok (.ifCond .eq 7, 3) := by decide +kernel
theorem dX0_reachByCall_148 : decode cX0_reachByCall 148 = .ok (.iconst 1, 1) := by decide +kernel
theorem dX0_reachByCall_149 : decode cX0_reachByCall 149 = .ok (.goto 4, 3) := by decide +kernel
theorem dX0_reachByCall_152 : decode cX0_reachByCall 152 = .ok (.iconst 0, 1) := by decide +kernel
theorem dX0_reachByCall_153 : decode cX0_reachByCall 153 = .ok (.ireturn, 1) := by decide +kernel
theorem dX0_reachPoint_0 : decode cX0_reachPoint 0 = .ok (.iload_n 1, 1) := by decide +kernel
theorem dX0_reachPoint_1 : decode cX0_reachPoint 1 = .ok (.ifCond .lt 38, 3) := by decide +kernel
theorem dX0_reachPoint_4 : decode cX0_reachPoint 4 = .ok (.aload_n 0, 1) := by decide +kernel
theorem dX0_reachPoint_5 : decode cX0_reachPoint 5 = .ok (.getfield 17, 3) := by decide +kernel
theorem dX0_reachPoint_8 : decode cX0_reachPoint 8 = .ok (.iload_n 1, 1) := by decide +kernel
theorem dX0_reachPoint_9 : decode cX0_reachPoint 9 = .ok (.iaload, 1) := by decide +kernel
theorem dX0_reachPoint_10 : decode cX0_reachPoint 10 = .ok (.istore 4, 2) := by decide +kernel
theorem dX0_reachPoint_12 : decode cX0_reachPoint 12 = .ok (.aload_n 0, 1) := by decide +kernel
theorem dX0_reachPoint_13 : decode cX0_reachPoint 13 = .ok (.getfield 17, 3) := by decide +kernel
theorem dX0_reachPoint_16 : decode cX0_reachPoint 16 = .ok (.iload_n 1, 1) := by decide +kernel
theorem dX0_reachPoint_17 : decode cX0_reachPoint 17 = .ok (.dup2, 1) := by decide +kernel
theorem dX0_reachPoint_18 : decode cX0_reachPoint 18 = .ok (.iaload, 1) := by decide +kernel
theorem dX0_reachPoint_19 : decode cX0_reachPoint 19 = .ok (.iload_n 2, 1) := by decide +kernel
theorem dX0_reachPoint_20 : decode cX0_reachPoint 20 = .ok (.ior, 1) := by decide +kernel
theorem dX0_reachPoint_21 : decode cX0_reachPoint 21 = .ok (.iastore, 1) := by decide +kernel
theorem dX0_reachPoint_22 : decode cX0_reachPoint 22 = .ok (.aload_n 0, 1) := by decide +kernel
theorem dX0_reachPoint_23 : decode cX0_reachPoint 23 = .ok (.getfield 17, 3) := by decide +kernel
theorem dX0_reachPoint_26 : decode cX0_reachPoint 26 = .ok (.iload_n 1, 1) := by decide +kernel
theorem dX0_reachPoint_27 : decode cX0_reachPoint 27 = .ok (.iaload, 1) := by decide +kernel
theorem dX0_reachPoint_28 : decode cX0_reachPoint 28 = .ok (.iload 4, 2) := by decide +kernel
theorem dX0_reachPoint_30 : decode cX0_reachPoint 30 = .ok (.if_icmp .eq 7, 3) := by decide +kernel
theorem dX0_reachPoint_33 : decode cX0_reachPoint 33 = .ok (.iconst 1, 1) := by decide +kernel
theorem dX0_reachPoint_34 : decode cX0_reachPoint 34 = .ok (.goto 4, 3) := by decide +kernel
theorem dX0_reachPoint_37 : decode cX0_reachPoint 37 = .ok (.iconst 0, 1) := by decide +kernel
theorem dX0_reachPoint_38 : decode cX0_reachPoint 38 = .ok (.ireturn, 1) := by decide +kernel
theorem dX0_reachPoint_39 : decode cX0_reachPoint 39 = .ok (.iload_n 1, 1) := by decide +kernel
theorem dX0_reachPoint_40 : decode cX0_reachPoint 40 = .ok (.iconst (-1), 1) := by decide +kernel
theorem dX0_reachPoint_41 : decode cX0_reachPoint 41 = .ok (.if_icmp .eq 5, 3) := by decide +kernel
theorem dX0_reachPoint_44 : decode cX0_reachPoint 44 = .ok (.iconst 0, 1) := by decide +kernel
theorem dX0_reachPoint_45 : decode cX0_reachPoint 45 = .ok (.ireturn, 1) := by decide +kernel
theorem dX0_reachPoint_46 : decode cX0_reachPoint 46 = .ok (.aload_n 0, 1) := by decide +kernel
theorem dX0_reachPoint_47 : decode cX0_reachPoint 47 = .ok (.getfield 20, 3) := by decide +kernel
theorem dX0_reachPoint_50 : decode cX0_reachPoint 50 = .ok (.iload_n 3, 1) := by decide +kernel
theorem dX0_reachPoint_51 : decode cX0_reachPoint 51 = .ok (.iaload, 1) := by decide +kernel
theorem dX0_reachPoint_52 : decode cX0_reachPoint 52 = .ok (.istore 4, 2) := by decide +kernel
theorem dX0_reachPoint_54 : decode cX0_reachPoint 54 = .ok (.aload_n 0, 1) := by decide +kernel
theorem dX0_reachPoint_55 : decode cX0_reachPoint 55 = .ok (.getfield 20, 3) := by decide +kernel
theorem dX0_reachPoint_58 : decode cX0_reachPoint 58 = .ok (.iload_n 3, 1) := by decide +kernel
theorem dX0_reachPoint_59 : decode cX0_reachPoint 59 = .ok (.dup2, 1) := by decide +kernel
theorem dX0_reachPoint_60 : decode cX0_reachPoint 60 = .ok (.iaload, 1) := by decide +kernel
theorem dX0_reachPoint_61 : decode cX0_reachPoint 61 = .ok (.iload_n 2, 1) := by decide +kernel
theorem dX0_reachPoint_62 : decode cX0_reachPoint 62 = .ok (.invokestatic 98, 3) := by decide +kernel
theorem dX0_reachPoint_65 : decode cX0_reachPoint 65 = .ok (.ior, 1) := by decide +kernel
theorem dX0_reachPoint_66 : decode cX0_reachPoint 66 = .ok (.iastore, 1) := by decide +kernel
theorem dX0_reachPoint_67 : decode cX0_reachPoint 67 = .ok (.aload_n 0, 1) := by decide +kernel
theorem dX0_reachPoint_68 : decode cX0_reachPoint 68 = .ok (.getfield 20, 3) := by decide +kernel
theorem dX0_reachPoint_71 : decode cX0_reachPoint 71 = .ok (.iload_n 3, 1) := by decide +kernel
theorem dX0_reachPoint_72 : decode cX0_reachPoint 72 = .ok (.iaload, 1) := by decide +kernel
theorem dX0_reachPoint_73 : decode cX0_reachPoint 73 = .ok (.iload 4, 2) := by decide +kernel
theorem dX0_reachPoint_75 : decode cX0_reachPoint 75 = .ok (.if_icmp .eq 7, 3) := by decide +kernel
theorem dX0_reachPoint_78 : decode cX0_reachPoint 78 = .ok (.iconst 1, 1) := by decide +kernel
theorem dX0_reachPoint_79 : decode cX0_reachPoint 79 = .ok (.goto 4, 3) := by decide +kernel
theorem dX0_reachPoint_82 : decode cX0_reachPoint 82 = .ok (.iconst 0, 1) := by decide +kernel
theorem dX0_reachPoint_83 : decode cX0_reachPoint 83 = .ok (.ireturn, 1) := by decide +kernel
theorem dX0_globalsOf_0 : decode cX0_globalsOf 0 = .ok (.iload_n 0, 1) := by decide +kernel
theorem dX0_globalsOf_1 : decode cX0_globalsOf 1 = .ok (.iload_n 0, 1) := by decide +kernel
theorem dX0_globalsOf_2 : decode cX0_globalsOf 2 = .ok (.bipush 8, 2) := by decide +kernel
theorem dX0_globalsOf_4 : decode cX0_globalsOf 4 = .ok (.iushr, 1) := by decide +kernel
theorem dX0_globalsOf_5 : decode cX0_globalsOf 5 = .ok (.ior, 1) := by decide +kernel
theorem dX0_globalsOf_6 : decode cX0_globalsOf 6 = .ok (.iload_n 0, 1) := by decide +kernel
theorem dX0_globalsOf_7 : decode cX0_globalsOf 7 = .ok (.bipush 16, 2) := by decide +kernel
theorem dX0_globalsOf_9 : decode cX0_globalsOf 9 = .ok (.iushr, 1) := by decide +kernel
theorem dX0_globalsOf_10 : decode cX0_globalsOf 10 = .ok (.ior, 1) := by decide +kernel
theorem dX0_globalsOf_11 : decode cX0_globalsOf 11 = .ok (.iload_n 0, 1) := by decide +kernel
theorem dX0_globalsOf_12 : decode cX0_globalsOf 12 = .ok (.bipush 24, 2) := by decide +kernel
theorem dX0_globalsOf_14 : decode cX0_globalsOf 14 = .ok (.iushr, 1) := by decide +kernel
theorem dX0_globalsOf_15 : decode cX0_globalsOf 15 = .ok (.ior, 1) := by decide +kernel
theorem dX0_globalsOf_16 : decode cX0_globalsOf 16 = .ok (.sipush 255, 3) := by decide +kernel
theorem dX0_globalsOf_19 : decode cX0_globalsOf 19 = .ok (.iand, 1) := by decide +kernel
theorem dX0_globalsOf_20 : decode cX0_globalsOf 20 = .ok (.ireturn, 1) := by decide +kernel
theorem dX0_isStale_0 : decode cX0_isStale 0 = .ok (.aload_n 0, 1) := by decide +kernel
theorem dX0_isStale_1 : decode cX0_isStale 1 = .ok (.getfield 26, 3) := by decide +kernel
theorem dX0_isStale_4 : decode cX0_isStale 4 = .ok (.iload_n 1, 1) := by decide +kernel
theorem dX0_isStale_5 : decode cX0_isStale 5 = .ok (.iaload, 1) := by decide +kernel
theorem dX0_isStale_6 : decode cX0_isStale 6 = .ok (.ifCond .eq 37, 3) := by decide +kernel
theorem dX0_isStale_9 : decode cX0_isStale 9 = .ok (.aload_n 0, 1) := by decide +kernel
theorem dX0_isStale_10 : decode cX0_isStale 10 = .ok (.aload_n 0, 1) := by decide +kernel
theorem dX0_isStale_11 : decode cX0_isStale 11 = .ok (.getfield 29, 3) := by decide +kernel
theorem dX0_isStale_14 : decode cX0_isStale 14 = .ok (.getfield 102, 3) := by decide +kernel
theorem dX0_isStale_17 : decode cX0_isStale 17 = .ok (.iload_n 1, 1) := by decide +kernel
theorem dX0_isStale_18 : decode cX0_isStale 18 = .ok (.iaload, 1) := by decide +kernel
theorem dX0_isStale_19 : decode cX0_isStale 19 = .ok (.iload_n 1, 1) := by decide +kernel
theorem dX0_isStale_20 : decode cX0_isStale 20 = .ok (.invokevirtual 105, 3) := by decide +kernel
theorem dX0_isStale_23 : decode cX0_isStale 23 = .ok (.ifCond .ne 20, 3) := by decide +kernel
theorem dX0_isStale_26 : decode cX0_isStale 26 = .ok (.aload_n 0, 1) := by decide +kernel
theorem dX0_isStale_27 : decode cX0_isStale 27 = .ok (.aload_n 0, 1) := by decide +kernel
theorem dX0_isStale_28 : decode cX0_isStale 28 = .ok (.getfield 29, 3) := by decide +kernel
theorem dX0_isStale_31 : decode cX0_isStale 31 = .ok (.getfield 109, 3) := by decide +kernel
theorem dX0_isStale_34 : decode cX0_isStale 34 = .ok (.iload_n 1, 1) := by decide +kernel
theorem dX0_isStale_35 : decode cX0_isStale 35 = .ok (.iaload, 1) := by decide +kernel
theorem dX0_isStale_36 : decode cX0_isStale 36 = .ok (.iload_n 1, 1) := by decide +kernel
theorem dX0_isStale_37 : decode cX0_isStale 37 = .ok (.invokevirtual 105, 3) := by decide +kernel
theorem dX0_isStale_40 : decode cX0_isStale 40 = .ok (.ifCond .eq 5, 3) := by decide +kernel
theorem dX0_isStale_43 : decode cX0_isStale 43 = .ok (.iconst 1, 1) := by decide +kernel
theorem dX0_isStale_44 : decode cX0_isStale 44 = .ok (.ireturn, 1) := by decide +kernel
theorem dX0_isStale_45 : decode cX0_isStale 45 = .ok (.aload_n 0, 1) := by decide +kernel
theorem dX0_isStale_46 : decode cX0_isStale 46 = .ok (.getfield 29, 3) := by decide +kernel
theorem dX0_isStale_49 : decode cX0_isStale 49 = .ok (.getfield 66, 3) := by decide +kernel
theorem dX0_isStale_52 : decode cX0_isStale 52 = .ok (.iload_n 1, 1) := by decide +kernel
theorem dX0_isStale_53 : decode cX0_isStale 53 = .ok (.iaload, 1) := by decide +kernel
theorem dX0_isStale_54 : decode cX0_isStale 54 = .ok (.iconst 3, 1) := by decide +kernel
theorem dX0_isStale_55 : decode cX0_isStale 55 = .ok (.if_icmp .ne 32, 3) := by decide +kernel
theorem dX0_isStale_58 : decode cX0_isStale 58 = .ok (.aload_n 0, 1) := by decide +kernel
theorem dX0_isStale_59 : decode cX0_isStale 59 = .ok (.aload_n 0, 1) := by decide +kernel
theorem dX0_isStale_60 : decode cX0_isStale 60 = .ok (.getfield 29, 3) := by decide +kernel
theorem dX0_isStale_63 : decode cX0_isStale 63 = .ok (.getfield 95, 3) := by decide +kernel
theorem dX0_isStale_66 : decode cX0_isStale 66 = .ok (.aload_n 0, 1) := by decide +kernel
theorem dX0_isStale_67 : decode cX0_isStale 67 = .ok (.getfield 29, 3) := by decide +kernel
theorem dX0_isStale_70 : decode cX0_isStale 70 = .ok (.getfield 92, 3) := by decide +kernel
theorem dX0_isStale_73 : decode cX0_isStale 73 = .ok (.iload_n 1, 1) := by decide +kernel
theorem dX0_isStale_74 : decode cX0_isStale 74 = .ok (.iaload, 1) := by decide +kernel
theorem dX0_isStale_75 : decode cX0_isStale 75 = .ok (.iaload, 1) := by decide +kernel
theorem dX0_isStale_76 : decode cX0_isStale 76 = .ok (.iload_n 1, 1) := by decide +kernel
theorem dX0_isStale_77 : decode cX0_isStale 77 = .ok (.invokevirtual 105, 3) := by decide +kernel
theorem dX0_isStale_80 : decode cX0_isStale 80 = .ok (.ifCond .eq 7, 3) := by decide +kernel
theorem dX0_isStale_83 : decode cX0_isStale 83 = .ok (.iconst 1, 1) := by decide +kernel
theorem dX0_isStale_84 : decode cX0_isStale 84 = .ok (.goto 4, 3) := by decide +kernel
theorem dX0_isStale_87 : decode cX0_isStale 87 = .ok (.iconst 0, 1) := by decide +kernel
theorem dX0_isStale_88 : decode cX0_isStale 88 = .ok (.ireturn, 1) := by decide +kernel
theorem dX0_isNewer_0 : decode cX0_isNewer 0 = .ok (.iload_n 1, 1) := by decide +kernel
theorem dX0_isNewer_1 : decode cX0_isNewer 1 = .ok (.ifCond .lt 22, 3) := by decide +kernel
theorem dX0_isNewer_4 : decode cX0_isNewer 4 = .ok (.aload_n 0, 1) := by decide +kernel
theorem dX0_isNewer_5 : decode cX0_isNewer 5 = .ok (.getfield 23, 3) := by decide +kernel
theorem dX0_isNewer_8 : decode cX0_isNewer 8 = .ok (.iload_n 1, 1) := by decide +kernel
theorem dX0_isNewer_9 : decode cX0_isNewer 9 = .ok (.iaload, 1) := by decide +kernel
theorem dX0_isNewer_10 : decode cX0_isNewer 10 = .ok (.aload_n 0, 1) := by decide +kernel
theorem dX0_isNewer_11 : decode cX0_isNewer 11 = .ok (.getfield 26, 3) := by decide +kernel
theorem dX0_isNewer_14 : decode cX0_isNewer 14 = .ok (.iload_n 2, 1) := by decide +kernel
theorem dX0_isNewer_15 : decode cX0_isNewer 15 = .ok (.iaload, 1) := by decide +kernel
theorem dX0_isNewer_16 : decode cX0_isNewer 16 = .ok (.if_icmp .lt 7, 3) := by decide +kernel
theorem dX0_isNewer_19 : decode cX0_isNewer 19 = .ok (.iconst 1, 1) := by decide +kernel
theorem dX0_isNewer_20 : decode cX0_isNewer 20 = .ok (.goto 4, 3) := by decide +kernel
theorem dX0_isNewer_23 : decode cX0_isNewer 23 = .ok (.iconst 0, 1) := by decide +kernel
theorem dX0_isNewer_24 : decode cX0_isNewer 24 = .ok (.ireturn, 1) := by decide +kernel
theorem dX0_lookAt_0 : decode cX0_lookAt 0 = .ok (.aload_n 0, 1) := by decide +kernel
theorem dX0_lookAt_1 : decode cX0_lookAt 1 = .ok (.dup, 1) := by decide +kernel
theorem dX0_lookAt_2 : decode cX0_lookAt 2 = .ok (.getfield 55, 3) := by decide +kernel
theorem dX0_lookAt_5 : decode cX0_lookAt 5 = .ok (.iconst 1, 1) := by decide +kernel
theorem dX0_lookAt_6 : decode cX0_lookAt 6 = .ok (.iadd, 1) := by decide +kernel
theorem dX0_lookAt_7 : decode cX0_lookAt 7 = .ok (.putfield 55, 3) := by decide +kernel
theorem dX0_lookAt_10 : decode cX0_lookAt 10 = .ok (.aload_n 0, 1) := by decide +kernel
theorem dX0_lookAt_11 : decode cX0_lookAt 11 = .ok (.getfield 26, 3) := by decide +kernel
theorem dX0_lookAt_14 : decode cX0_lookAt 14 = .ok (.iload_n 1, 1) := by decide +kernel
theorem dX0_lookAt_15 : decode cX0_lookAt 15 = .ok (.aload_n 0, 1) := by decide +kernel
theorem dX0_lookAt_16 : decode cX0_lookAt 16 = .ok (.getfield 55, 3) := by decide +kernel
theorem dX0_lookAt_19 : decode cX0_lookAt 19 = .ok (.iastore, 1) := by decide +kernel
theorem dX0_lookAt_20 : decode cX0_lookAt 20 = .ok (.aload_n 0, 1) := by decide +kernel
theorem dX0_lookAt_21 : decode cX0_lookAt 21 = .ok (.getfield 29, 3) := by decide +kernel
theorem dX0_lookAt_24 : decode cX0_lookAt 24 = .ok (.getfield 66, 3) := by decide +kernel
theorem dX0_lookAt_27 : decode cX0_lookAt 27 = .ok (.iload_n 1, 1) := by decide +kernel
theorem dX0_lookAt_28 : decode cX0_lookAt 28 = .ok (.iaload, 1) := by decide +kernel
theorem dX0_lookAt_29 : decode cX0_lookAt 29 = .ok (.iconst 3, 1) := by decide +kernel
theorem dX0_lookAt_30 : decode cX0_lookAt 30 = .ok (.if_icmp .ne 7, 3) := by decide +kernel
theorem dX0_lookAt_33 : decode cX0_lookAt 33 = .ok (.iconst 1, 1) := by decide +kernel
theorem dX0_lookAt_34 : decode cX0_lookAt 34 = .ok (.goto 4, 3) := by decide +kernel
theorem dX0_lookAt_37 : decode cX0_lookAt 37 = .ok (.iconst 0, 1) := by decide +kernel
theorem dX0_lookAt_38 : decode cX0_lookAt 38 = .ok (.istore_n 2, 1) := by decide +kernel
theorem dX0_lookAt_39 : decode cX0_lookAt 39 = .ok (.iconst 0, 1) := by decide +kernel
theorem dX0_lookAt_40 : decode cX0_lookAt 40 = .ok (.istore_n 3, 1) := by decide +kernel
theorem dX0_lookAt_41 : decode cX0_lookAt 41 = .ok (.iconst 0, 1) := by decide +kernel
theorem dX0_lookAt_42 : decode cX0_lookAt 42 = .ok (.istore 4, 2) := by decide +kernel
theorem dX0_lookAt_44 : decode cX0_lookAt 44 = .ok (.iload 4, 2) := by decide +kernel
theorem dX0_lookAt_46 : decode cX0_lookAt 46 = .ok (.bipush 32, 2) := by decide +kernel
theorem dX0_lookAt_48 : decode cX0_lookAt 48 = .ok (.if_icmp .ge 47, 3) := by decide +kernel
theorem dX0_lookAt_51 : decode cX0_lookAt 51 = .ok (.aload_n 0, 1) := by decide +kernel
theorem dX0_lookAt_52 : decode cX0_lookAt 52 = .ok (.getfield 17, 3) := by decide +kernel
theorem dX0_lookAt_55 : decode cX0_lookAt 55 = .ok (.iload_n 1, 1) := by decide +kernel
theorem dX0_lookAt_56 : decode cX0_lookAt 56 = .ok (.iaload, 1) := by decide +kernel
theorem dX0_lookAt_57 : decode cX0_lookAt 57 = .ok (.iload 4, 2) := by decide +kernel
theorem dX0_lookAt_59 : decode cX0_lookAt 59 = .ok (.iushr, 1) := by decide +kernel
theorem dX0_lookAt_60 : decode cX0_lookAt 60 = .ok (.iconst 1, 1) := by decide +kernel
theorem dX0_lookAt_61 : decode cX0_lookAt 61 = .ok (.iand, 1) := by decide +kernel
theorem dX0_lookAt_62 : decode cX0_lookAt 62 = .ok (.ifCond .eq 27, 3) := by decide +kernel
theorem dX0_lookAt_65 : decode cX0_lookAt 65 = .ok (.iload_n 3, 1) := by decide +kernel
theorem dX0_lookAt_66 : decode cX0_lookAt 66 = .ok (.iload_n 2, 1) := by decide +kernel
theorem dX0_lookAt_67 : decode cX0_lookAt 67 = .ok (.ifCond .eq 13, 3) := by decide +kernel
theorem dX0_lookAt_70 : decode cX0_lookAt 70 = .ok (.aload_n 0, 1) := by decide +kernel
theorem dX0_lookAt_71 : decode cX0_lookAt 71 = .ok (.iload_n 1, 1) := by decide +kernel
theorem dX0_lookAt_72 : decode cX0_lookAt 72 = .ok (.iload 4, 2) := by decide +kernel
theorem dX0_lookAt_74 : decode cX0_lookAt 74 = .ok (.invokevirtual 112, 3) := by decide +kernel
theorem dX0_lookAt_77 : decode cX0_lookAt 77 = .ok (.goto 10, 3) := by decide +kernel
theorem dX0_lookAt_80 : decode cX0_lookAt 80 = .ok (.aload_n 0, 1) := by decide +kernel
theorem dX0_lookAt_81 : decode cX0_lookAt 81 = .ok (.iload_n 1, 1) := by decide +kernel
theorem dX0_lookAt_82 : decode cX0_lookAt 82 = .ok (.iload 4, 2) := by decide +kernel
theorem dX0_lookAt_84 : decode cX0_lookAt 84 = .ok (.invokevirtual 115, 3) := by decide +kernel
theorem dX0_lookAt_87 : decode cX0_lookAt 87 = .ok (.ior, 1) := by decide +kernel
theorem dX0_lookAt_88 : decode cX0_lookAt 88 = .ok (.istore_n 3, 1) := by decide +kernel
theorem dX0_lookAt_89 : decode cX0_lookAt 89 = .ok (.iinc 4 1, 3) := by decide +kernel
theorem dX0_lookAt_92 : decode cX0_lookAt 92 = .ok (.goto (-48), 3) := by decide +kernel
theorem dX0_lookAt_95 : decode cX0_lookAt 95 = .ok (.iload_n 3, 1) := by decide +kernel
theorem dX0_lookAt_96 : decode cX0_lookAt 96 = .ok (.ifCond .eq 13, 3) := by decide +kernel
theorem dX0_lookAt_99 : decode cX0_lookAt 99 = .ok (.aload_n 0, 1) := by decide +kernel
theorem dX0_lookAt_100 : decode cX0_lookAt 100 = .ok (.getfield 23, 3) := by decide +kernel
theorem dX0_lookAt_103 : decode cX0_lookAt 103 = .ok (.iload_n 1, 1) := by decide +kernel
theorem dX0_lookAt_104 : decode cX0_lookAt 104 = .ok (.aload_n 0, 1) := by decide +kernel
theorem dX0_lookAt_105 : decode cX0_lookAt 105 = .ok (.getfield 55, 3) := by decide +kernel
theorem dX0_lookAt_108 : decode cX0_lookAt 108 = .ok (.iastore, 1) := by decide +kernel
theorem dX0_lookAt_109 : decode cX0_lookAt 109 = .ok (.iload_n 3, 1) := by decide +kernel
theorem dX0_lookAt_110 : decode cX0_lookAt 110 = .ok (.ireturn, 1) := by decide +kernel
theorem dX0_lowerByStep_0 : decode cX0_lowerByStep 0 = .ok (.iconst 0, 1) := by decide +kernel
theorem dX0_lowerByStep_1 : decode cX0_lowerByStep 1 = .ok (.istore_n 3, 1) := by decide +kernel
theorem dX0_lowerByStep_2 : decode cX0_lowerByStep 2 = .ok (.iconst 0, 1) := by decide +kernel
theorem dX0_lowerByStep_3 : decode cX0_lowerByStep 3 = .ok (.istore 4, 2) := by decide +kernel
theorem dX0_lowerByStep_5 : decode cX0_lowerByStep 5 = .ok (.iload 4, 2) := by decide +kernel
theorem dX0_lowerByStep_7 : decode cX0_lowerByStep 7 = .ok (.iconst 1, 1) := by decide +kernel
theorem dX0_lowerByStep_8 : decode cX0_lowerByStep 8 = .ok (.if_icmp .gt 64, 3) := by decide +kernel
theorem dX0_lowerByStep_11 : decode cX0_lowerByStep 11 = .ok (.aload_n 0, 1) := by decide +kernel
theorem dX0_lowerByStep_12 : decode cX0_lowerByStep 12 = .ok (.getfield 29, 3) := by decide +kernel
theorem dX0_lowerByStep_15 : decode cX0_lowerByStep 15 = .ok (.iload_n 1, 1) := by decide +kernel
theorem dX0_lowerByStep_16 : decode cX0_lowerByStep 16 = .ok (.iload 4, 2) := by decide +kernel
theorem dX0_lowerByStep_18 : decode cX0_lowerByStep 18 = .ok (.invokevirtual 75, 3) := by decide +kernel
theorem dX0_lowerByStep_21 : decode cX0_lowerByStep 21 = .ok (.iload_n 2, 1) := by decide +kernel
theorem dX0_lowerByStep_22 : decode cX0_lowerByStep 22 = .ok (.iushr, 1) := by decide +kernel
theorem dX0_lowerByStep_23 : decode cX0_lowerByStep 23 = .ok (.iconst 1, 1) := by decide +kernel
theorem dX0_lowerByStep_24 : decode cX0_lowerByStep 24 = .ok (.iand, 1) := by decide +kernel
theorem dX0_lowerByStep_25 : decode cX0_lowerByStep 25 = .ok (.ifCond .eq 41, 3) := by decide +kernel
theorem dX0_lowerByStep_28 : decode cX0_lowerByStep 28 = .ok (.aload_n 0, 1) := by decide +kernel
theorem dX0_lowerByStep_29 : decode cX0_lowerByStep 29 = .ok (.getfield 29, 3) := by decide +kernel
theorem dX0_lowerByStep_32 : decode cX0_lowerByStep 32 = .ok (.iload_n 1, 1) := by decide +kernel
theorem dX0_lowerByStep_33 : decode cX0_lowerByStep 33 = .ok (.iload_n 2, 1) := by decide +kernel
theorem dX0_lowerByStep_34 : decode cX0_lowerByStep 34 = .ok (.iload 4, 2) := by decide +kernel
theorem dX0_lowerByStep_36 : decode cX0_lowerByStep 36 = .ok (.invokevirtual 78, 3) := by decide +kernel
theorem dX0_lowerByStep_39 : decode cX0_lowerByStep 39 = .ok (.istore 5, 2) := by decide +kernel
theorem dX0_lowerByStep_41 : decode cX0_lowerByStep 41 = .ok (.iload_n 3, 1) := by decide +kernel
theorem dX0_lowerByStep_42 : decode cX0_lowerByStep 42 = .ok (.aload_n 0, 1) := by decide +kernel
theorem dX0_lowerByStep_43 : decode cX0_lowerByStep 43 = .ok (.iload_n 1, 1) := by decide +kernel
theorem dX0_lowerByStep_44 : decode cX0_lowerByStep 44 = .ok (.iload_n 2, 1) := by decide +kernel
theorem dX0_lowerByStep_45 : decode cX0_lowerByStep 45 = .ok (.invokestatic 38, 3) := by decide +kernel
theorem dX0_lowerByStep_48 : decode cX0_lowerByStep 48 = .ok (.aload_n 0, 1) := by decide +kernel
theorem dX0_lowerByStep_49 : decode cX0_lowerByStep 49 = .ok (.getfield 29, 3) := by decide +kernel
theorem dX0_lowerByStep_52 : decode cX0_lowerByStep 52 = .ok (.iload_n 1, 1) := by decide +kernel
theorem dX0_lowerByStep_53 : decode cX0_lowerByStep 53 = .ok (.iload 4, 2) := by decide +kernel
theorem dX0_lowerByStep_55 : decode cX0_lowerByStep 55 = .ok (.invokevirtual 82, 3) := by decide +kernel
theorem dX0_lowerByStep_58 : decode cX0_lowerByStep 58 = .ok (.iload 5, 2) := by decide +kernel
theorem dX0_lowerByStep_60 : decode cX0_lowerByStep 60 = .ok (.iconst 1, 1) := by decide +kernel
theorem dX0_lowerByStep_61 : decode cX0_lowerByStep 61 = .ok (.invokevirtual 118, 3) := by decide +kernel
theorem dX0_lowerByStep_64 : decode cX0_lowerByStep 64 = .ok (.ior, 1) := by decide +kernel
theorem dX0_lowerByStep_65 : decode cX0_lowerByStep 65 = .ok (.istore_n 3, 1) := by decide +kernel
theorem dX0_lowerByStep_66 : decode cX0_lowerByStep 66 = .ok (.iinc 4 1, 3) := by decide +kernel
theorem dX0_lowerByStep_69 : decode cX0_lowerByStep 69 = .ok (.goto (-64), 3) := by decide +kernel
theorem dX0_lowerByStep_72 : decode cX0_lowerByStep 72 = .ok (.iload_n 3, 1) := by decide +kernel
theorem dX0_lowerByStep_73 : decode cX0_lowerByStep 73 = .ok (.ireturn, 1) := by decide +kernel
theorem dX0_lowerByCall_0 : decode cX0_lowerByCall 0 = .ok (.iload_n 1, 1) := by decide +kernel
theorem dX0_lowerByCall_1 : decode cX0_lowerByCall 1 = .ok (.iload_n 2, 1) := by decide +kernel
theorem dX0_lowerByCall_2 : decode cX0_lowerByCall 2 = .ok (.invokestatic 38, 3) := by decide +kernel
theorem dX0_lowerByCall_5 : decode cX0_lowerByCall 5 = .ok (.istore_n 3, 1) := by decide +kernel
theorem dX0_lowerByCall_6 : decode cX0_lowerByCall 6 = .ok (.aload_n 0, 1) := by decide +kernel
theorem dX0_lowerByCall_7 : decode cX0_lowerByCall 7 = .ok (.getfield 29, 3) := by decide +kernel
theorem dX0_lowerByCall_10 : decode cX0_lowerByCall 10 = .ok (.iload_n 1, 1) := by decide +kernel
theorem dX0_lowerByCall_11 : decode cX0_lowerByCall 11 = .ok (.iconst 1, 1) := by decide +kernel
theorem dX0_lowerByCall_12 : decode cX0_lowerByCall 12 = .ok (.invokevirtual 82, 3) := by decide +kernel
theorem dX0_lowerByCall_15 : decode cX0_lowerByCall 15 = .ok (.istore 4, 2) := by decide +kernel
theorem dX0_lowerByCall_17 : decode cX0_lowerByCall 17 = .ok (.aload_n 0, 1) := by decide +kernel
theorem dX0_lowerByCall_18 : decode cX0_lowerByCall 18 = .ok (.getfield 29, 3) := by decide +kernel
theorem dX0_lowerByCall_21 : decode cX0_lowerByCall 21 = .ok (.getfield 95, 3) := by decide +kernel
theorem dX0_lowerByCall_24 : decode cX0_lowerByCall 24 = .ok (.aload_n 0, 1) := by decide +kernel
theorem dX0_lowerByCall_25 : decode cX0_lowerByCall 25 = .ok (.getfield 29, 3) := by decide +kernel
theorem dX0_lowerByCall_28 : decode cX0_lowerByCall 28 = .ok (.getfield 92, 3) := by decide +kernel
theorem dX0_lowerByCall_31 : decode cX0_lowerByCall 31 = .ok (.iload_n 1, 1) := by decide +kernel
theorem dX0_lowerByCall_32 : decode cX0_lowerByCall 32 = .ok (.iaload, 1) := by decide +kernel
theorem dX0_lowerByCall_33 : decode cX0_lowerByCall 33 = .ok (.iaload, 1) := by decide +kernel
theorem dX0_lowerByCall_34 : decode cX0_lowerByCall 34 = .ok (.istore 5, 2) := by decide +kernel
theorem dX0_lowerByCall_36 : decode cX0_lowerByCall 36 = .ok (.iload 5, 2) := by decide +kernel
theorem dX0_lowerByCall_38 : decode cX0_lowerByCall 38 = .ok (.ifCond .ge 13, 3) := by decide +kernel
theorem dX0_lowerByCall_41 : decode cX0_lowerByCall 41 = .ok (.aload_n 0, 1) := by decide +kernel
theorem dX0_lowerByCall_42 : decode cX0_lowerByCall 42 = .ok (.iload_n 3, 1) := by decide +kernel
theorem dX0_lowerByCall_43 : decode cX0_lowerByCall 43 = .ok (.iload 4, 2) := by decide +kernel
theorem dX0_lowerByCall_45 : decode cX0_lowerByCall 45 = .ok (.iload_n 2, 1) := by decide +kernel
theorem dX0_lowerByCall_46 : decode cX0_lowerByCall 46 = .ok (.iconst 1, 1) := by decide +kernel
theorem dX0_lowerByCall_47 : decode cX0_lowerByCall 47 = .ok (.invokevirtual 118, 3) := by decide +kernel
theorem dX0_lowerByCall_50 : decode cX0_lowerByCall 50 = .ok (.ireturn, 1) := by decide +kernel
theorem dX0_lowerByCall_51 : decode cX0_lowerByCall 51 = .ok (.iload 5, 2) := by decide +kernel
theorem dX0_lowerByCall_53 : decode cX0_lowerByCall 53 = .ok (.iload_n 2, 1) := by decide +kernel
theorem dX0_lowerByCall_54 : decode cX0_lowerByCall 54 = .ok (.bipush 7, 2) := by decide +kernel
theorem dX0_lowerByCall_56 : decode cX0_lowerByCall 56 = .ok (.iand, 1) := by decide +kernel
theorem dX0_lowerByCall_57 : decode cX0_lowerByCall 57 = .ok (.invokestatic 38, 3) := by decide +kernel
theorem dX0_lowerByCall_60 : decode cX0_lowerByCall 60 = .ok (.istore 6, 2) := by decide +kernel
theorem dX0_lowerByCall_62 : decode cX0_lowerByCall 62 = .ok (.iload_n 2, 1) := by decide +kernel
theorem dX0_lowerByCall_63 : decode cX0_lowerByCall 63 = .ok (.bipush 24, 2) := by decide +kernel
theorem dX0_lowerByCall_65 : decode cX0_lowerByCall 65 = .ok (.iand, 1) := by decide +kernel
theorem dX0_lowerByCall_66 : decode cX0_lowerByCall 66 = .ok (.istore 7, 2) := by decide +kernel
theorem dX0_lowerByCall_68 : decode cX0_lowerByCall 68 = .ok (.aload_n 0, 1) := by decide +kernel
theorem dX0_lowerByCall_69 : decode cX0_lowerByCall 69 = .ok (.iload_n 3, 1) := by decide +kernel
theorem dX0_lowerByCall_70 : decode cX0_lowerByCall 70 = .ok (.bipush 8, 2) := by decide +kernel
theorem dX0_lowerByCall_72 : decode cX0_lowerByCall 72 = .ok (.iadd, 1) := by decide +kernel
theorem dX0_lowerByCall_73 : decode cX0_lowerByCall 73 = .ok (.aload_n 0, 1) := by decide +kernel
theorem dX0_lowerByCall_74 : decode cX0_lowerByCall 74 = .ok (.getfield 13, 3) := by decide +kernel
theorem dX0_lowerByCall_77 : decode cX0_lowerByCall 77 = .ok (.iload 6, 2) := by decide +kernel
theorem dX0_lowerByCall_79 : decode cX0_lowerByCall 79 = .ok (.bipush 8, 2) := by decide +kernel
theorem dX0_lowerByCall_81 : decode cX0_lowerByCall 81 = .ok (.iadd, 1) := by decide +kernel
theorem dX0_lowerByCall_82 : decode cX0_lowerByCall 82 = .ok (.iaload, 1) := by decide +kernel
theorem dX0_lowerByCall_83 : decode cX0_lowerByCall 83 = .ok (.iconst 1, 1) := by decide +kernel
theorem dX0_lowerByCall_84 : decode cX0_lowerByCall 84 = .ok (.iadd, 1) := by decide +kernel
theorem dX0_lowerByCall_85 : decode cX0_lowerByCall 85 = .ok (.invokevirtual 122, 3) := by decide +kernel
theorem dX0_lowerByCall_88 : decode cX0_lowerByCall 88 = .ok (.istore 8, 2) := by decide +kernel
theorem dX0_lowerByCall_90 : decode cX0_lowerByCall 90 = .ok (.iconst 0, 1) := by decide +kernel
theorem dX0_lowerByCall_91 : decode cX0_lowerByCall 91 = .ok (.istore 9, 2) := by decide +kernel
theorem dX0_lowerByCall_93 : decode cX0_lowerByCall 93 = .ok (.iload 9, 2) := by decide +kernel
theorem dX0_lowerByCall_95 : decode cX0_lowerByCall 95 = .ok (.bipush 8, 2) := by decide +kernel
theorem dX0_lowerByCall_97 : decode cX0_lowerByCall 97 = .ok (.if_icmp .ge 49, 3) := by decide +kernel
theorem dX0_lowerByCall_100 : decode cX0_lowerByCall 100 = .ok (.aload_n 0, 1) := by decide +kernel
theorem dX0_lowerByCall_101 : decode cX0_lowerByCall 101 = .ok (.getfield 13, 3) := by decide +kernel
theorem dX0_lowerByCall_104 : decode cX0_lowerByCall 104 = .ok (.iload 6, 2) := by decide +kernel
theorem dX0_lowerByCall_106 : decode cX0_lowerByCall 106 = .ok (.iload 9, 2) := by decide +kernel
theorem dX0_lowerByCall_108 : decode cX0_lowerByCall 108 = .ok (.iadd, 1) := by decide +kernel
theorem dX0_lowerByCall_109 : decode cX0_lowerByCall 109 = .ok (.iaload, 1) := by decide +kernel
theorem dX0_lowerByCall_110 : decode cX0_lowerByCall 110 = .ok (.istore 10, 2) := by decide +kernel
theorem dX0_lowerByCall_112 : decode cX0_lowerByCall 112 = .ok (.iload 10, 2) := by decide +kernel
theorem dX0_lowerByCall_114 : decode cX0_lowerByCall 114 = .ok (.ldc 37, 2) := by decide +kernel
theorem dX0_lowerByCall_116 : decode cX0_lowerByCall 116 = .ok (.if_icmp .ge 24, 3) := by decide +kernel
theorem dX0_lowerByCall_119 : decode cX0_lowerByCall 119 = .ok (.iload 8, 2) := by decide +kernel
theorem dX0_lowerByCall_121 : decode cX0_lowerByCall 121 = .ok (.aload_n 0, 1) := by decide +kernel
theorem dX0_lowerByCall_122 : decode cX0_lowerByCall 122 = .ok (.iload_n 3, 1) := by decide +kernel
theorem dX0_lowerByCall_123 : decode cX0_lowerByCall 123 = .ok (.iload 4, 2) := by decide +kernel
theorem dX0_lowerByCall_125 : decode cX0_lowerByCall 125 = .ok (.iload 7, 2) := by decide +kernel
theorem dX0_lowerByCall_127 : decode cX0_lowerByCall 127 = .ok (.iload 9, 2) := by decide +kernel
theorem dX0_lowerByCall_129 : decode cX0_lowerByCall 129 = .ok (.ior, 1) := by decide +kernel
theorem dX0_lowerByCall_130 : decode cX0_lowerByCall 130 = .ok (.iload 10, 2) := by decide +kernel
theorem dX0_lowerByCall_132 : decode cX0_lowerByCall 132 = .ok (.iconst 1, 1) := by decide +kernel
theorem dX0_lowerByCall_133 : decode cX0_lowerByCall 133 = .ok (.iadd, 1) := by decide +kernel
theorem dX0_lowerByCall_134 : decode cX0_lowerByCall 134 = .ok (.invokevirtual 118, 3) := by decide +kernel
theorem dX0_lowerByCall_137 : decode cX0_lowerByCall 137 = .ok (.ior, 1) := by decide +kernel
theorem dX0_lowerByCall_138 : decode cX0_lowerByCall 138 = .ok (.istore 8, 2) := by decide +kernel
theorem dX0_lowerByCall_140 : decode cX0_lowerByCall 140 = .ok (.iinc 9 1, 3) := by decide +kernel
theorem dX0_lowerByCall_143 : decode cX0_lowerByCall 143 = .ok (.goto (-50), 3) := by decide +kernel
theorem dX0_lowerByCall_146 : decode cX0_lowerByCall 146 = .ok (.iload 8, 2) := by decide +kernel
theorem dX0_lowerByCall_148 : decode cX0_lowerByCall 148 = .ok (.ireturn, 1) := by decide +kernel
theorem dX0_lowerRow_0 : decode cX0_lowerRow 0 = .ok (.iload_n 2, 1) := by decide +kernel
theorem dX0_lowerRow_1 : decode cX0_lowerRow 1 = .ok (.iconst (-1), 1) := by decide +kernel
theorem dX0_lowerRow_2 : decode cX0_lowerRow 2 = .ok (.if_icmp .ne 16, 3) := by decide +kernel
theorem dX0_lowerRow_5 : decode cX0_lowerRow 5 = .ok (.aload_n 0, 1) := by decide +kernel
theorem dX0_lowerRow_6 : decode cX0_lowerRow 6 = .ok (.iload_n 1, 1) := by decide +kernel
theorem dX0_lowerRow_7 : decode cX0_lowerRow 7 = .ok (.iload_n 3, 1) := by decide +kernel
theorem dX0_lowerRow_8 : decode cX0_lowerRow 8 = .ok (.bipush 7, 2) := by decide +kernel
theorem dX0_lowerRow_10 : decode cX0_lowerRow 10 = .ok (.iand, 1) := by decide +kernel
theorem dX0_lowerRow_11 : decode cX0_lowerRow 11 = .ok (.iadd, 1) := by decide +kernel
theorem dX0_lowerRow_12 : decode cX0_lowerRow 12 = .ok (.iload 4, 2) := by decide +kernel
theorem dX0_lowerRow_14 : decode cX0_lowerRow 14 = .ok (.invokevirtual 122, 3) := by decide +kernel
theorem dX0_lowerRow_17 : decode cX0_lowerRow 17 = .ok (.ireturn, 1) := by decide +kernel
theorem dX0_lowerRow_18 : decode cX0_lowerRow 18 = .ok (.iload_n 2, 1) := by decide +kernel
theorem dX0_lowerRow_19 : decode cX0_lowerRow 19 = .ok (.bipush (-2), 2) := by decide +kernel
theorem dX0_lowerRow_21 : decode cX0_lowerRow 21 = .ok (.if_icmp .ne 14, 3) := by decide +kernel
theorem dX0_lowerRow_24 : decode cX0_lowerRow 24 = .ok (.aload_n 0, 1) := by decide +kernel
theorem dX0_lowerRow_25 : decode cX0_lowerRow 25 = .ok (.iload_n 1, 1) := by decide +kernel
theorem dX0_lowerRow_26 : decode cX0_lowerRow 26 = .ok (.bipush 8, 2) := by decide +kernel
theorem dX0_lowerRow_28 : decode cX0_lowerRow 28 = .ok (.iadd, 1) := by decide +kernel
theorem dX0_lowerRow_29 : decode cX0_lowerRow 29 = .ok (.iload 4, 2) := by decide +kernel
theorem dX0_lowerRow_31 : decode cX0_lowerRow 31 = .ok (.invokevirtual 122, 3) := by decide +kernel
theorem dX0_lowerRow_34 : decode cX0_lowerRow 34 = .ok (.ireturn, 1) := by decide +kernel
theorem dX0_lowerRow_35 : decode cX0_lowerRow 35 = .ok (.iload_n 2, 1) := by decide +kernel
theorem dX0_lowerRow_36 : decode cX0_lowerRow 36 = .ok (.ifCond .ge 5, 3) := by decide +kernel
theorem dX0_lowerRow_39 : decode cX0_lowerRow 39 = .ok (.iconst 0, 1) := by decide +kernel
theorem dX0_lowerRow_40 : decode cX0_lowerRow 40 = .ok (.ireturn, 1) := by decide +kernel
theorem dX0_lowerRow_41 : decode cX0_lowerRow 41 = .ok (.iload_n 2, 1) := by decide +kernel
theorem dX0_lowerRow_42 : decode cX0_lowerRow 42 = .ok (.iload_n 3, 1) := by decide +kernel
theorem dX0_lowerRow_43 : decode cX0_lowerRow 43 = .ok (.invokestatic 38, 3) := by decide +kernel
theorem dX0_lowerRow_46 : decode cX0_lowerRow 46 = .ok (.istore 5, 2) := by decide +kernel
theorem dX0_lowerRow_48 : decode cX0_lowerRow 48 = .ok (.iconst 0, 1) := by decide +kernel
theorem dX0_lowerRow_49 : decode cX0_lowerRow 49 = .ok (.istore 6, 2) := by decide +kernel
theorem dX0_lowerRow_51 : decode cX0_lowerRow 51 = .ok (.iconst 0, 1) := by decide +kernel
theorem dX0_lowerRow_52 : decode cX0_lowerRow 52 = .ok (.istore 7, 2) := by decide +kernel
theorem dX0_lowerRow_54 : decode cX0_lowerRow 54 = .ok (.iload 7, 2) := by decide +kernel
theorem dX0_lowerRow_56 : decode cX0_lowerRow 56 = .ok (.bipush 9, 2) := by decide +kernel
theorem dX0_lowerRow_58 : decode cX0_lowerRow 58 = .ok (.if_icmp .ge 35, 3) := by decide +kernel
theorem dX0_lowerRow_61 : decode cX0_lowerRow 61 = .ok (.iload 6, 2) := by decide +kernel
theorem dX0_lowerRow_63 : decode cX0_lowerRow 63 = .ok (.aload_n 0, 1) := by decide +kernel
theorem dX0_lowerRow_64 : decode cX0_lowerRow 64 = .ok (.iload_n 1, 1) := by decide +kernel
theorem dX0_lowerRow_65 : decode cX0_lowerRow 65 = .ok (.iload 7, 2) := by decide +kernel
theorem dX0_lowerRow_67 : decode cX0_lowerRow 67 = .ok (.iadd, 1) := by decide +kernel
theorem dX0_lowerRow_68 : decode cX0_lowerRow 68 = .ok (.aload_n 0, 1) := by decide +kernel
theorem dX0_lowerRow_69 : decode cX0_lowerRow 69 = .ok (.getfield 13, 3) := by decide +kernel
theorem dX0_lowerRow_72 : decode cX0_lowerRow 72 = .ok (.iload 5, 2) := by decide +kernel
theorem dX0_lowerRow_74 : decode cX0_lowerRow 74 = .ok (.iload 7, 2) := by decide +kernel
theorem dX0_lowerRow_76 : decode cX0_lowerRow 76 = .ok (.iadd, 1) := by decide +kernel
theorem dX0_lowerRow_77 : decode cX0_lowerRow 77 = .ok (.iaload, 1) := by decide +kernel
theorem dX0_lowerRow_78 : decode cX0_lowerRow 78 = .ok (.iload 4, 2) := by decide +kernel
theorem dX0_lowerRow_80 : decode cX0_lowerRow 80 = .ok (.iadd, 1) := by decide +kernel
theorem dX0_lowerRow_81 : decode cX0_lowerRow 81 = .ok (.invokevirtual 122, 3) := by decide +kernel
theorem dX0_lowerRow_84 : decode cX0_lowerRow 84 = .ok (.ior, 1) := by decide +kernel
theorem dX0_lowerRow_85 : decode cX0_lowerRow 85 = .ok (.istore 6, 2) := by decide +kernel
theorem dX0_lowerRow_87 : decode cX0_lowerRow 87 = .ok (.iinc 7 1, 3) := by decide +kernel
theorem dX0_lowerRow_90 : decode cX0_lowerRow 90 = .ok (.goto (-36), 3) := by decide +kernel
theorem dX0_lowerRow_93 : decode cX0_lowerRow 93 = .ok (.iload 6, 2) := by decide +kernel
theorem dX0_lowerRow_95 : decode cX0_lowerRow 95 = .ok (.ireturn, 1) := by decide +kernel
theorem dX0_lower_0 : decode cX0_lower 0 = .ok (.iload_n 2, 1) := by decide +kernel
theorem dX0_lower_1 : decode cX0_lower 1 = .ok (.ldc 37, 2) := by decide +kernel
theorem dX0_lower_3 : decode cX0_lower 3 = .ok (.if_icmp .lt 5, 3) := by decide +kernel
theorem dX0_lower_6 : decode cX0_lower 6 = .ok (.iconst 0, 1) := by decide +kernel
theorem dX0_lower_7 : decode cX0_lower 7 = .ok (.ireturn, 1) := by decide +kernel
theorem dX0_lower_8 : decode cX0_lower 8 = .ok (.iload_n 2, 1) := by decide +kernel
theorem dX0_lower_9 : decode cX0_lower 9 = .ok (.ldc 58, 2) := by decide +kernel
theorem dX0_lower_11 : decode cX0_lower 11 = .ok (.invokestatic 125, 3) := by decide +kernel
theorem dX0_lower_14 : decode cX0_lower 14 = .ok (.istore_n 3, 1) := by decide +kernel
theorem dX0_lower_15 : decode cX0_lower 15 = .ok (.iload_n 3, 1) := by decide +kernel
theorem dX0_lower_16 : decode cX0_lower 16 = .ok (.aload_n 0, 1) := by decide +kernel
theorem dX0_lower_17 : decode cX0_lower 17 = .ok (.getfield 13, 3) := by decide +kernel
theorem dX0_lower_20 : decode cX0_lower 20 = .ok (.iload_n 1, 1) := by decide +kernel
theorem dX0_lower_21 : decode cX0_lower 21 = .ok (.iaload, 1) := by decide +kernel
theorem dX0_lower_22 : decode cX0_lower 22 = .ok (.if_icmp .lt 5, 3) := by decide +kernel
theorem dX0_lower_25 : decode cX0_lower 25 = .ok (.iconst 0, 1) := by decide +kernel
theorem dX0_lower_26 : decode cX0_lower 26 = .ok (.ireturn, 1) := by decide +kernel
theorem dX0_lower_27 : decode cX0_lower 27 = .ok (.aload_n 0, 1) := by decide +kernel
theorem dX0_lower_28 : decode cX0_lower 28 = .ok (.getfield 13, 3) := by decide +kernel
theorem dX0_lower_31 : decode cX0_lower 31 = .ok (.iload_n 1, 1) := by decide +kernel
theorem dX0_lower_32 : decode cX0_lower 32 = .ok (.iload_n 3, 1) := by decide +kernel
theorem dX0_lower_33 : decode cX0_lower 33 = .ok (.iastore, 1) := by decide +kernel
theorem dX0_lower_34 : decode cX0_lower 34 = .ok (.iconst 1, 1) := by decide +kernel
theorem dX0_lower_35 : decode cX0_lower 35 = .ok (.ireturn, 1) := by decide +kernel
theorem dX1_init_0 : decode cX1_init 0 = .ok (.aload_n 0, 1) := by decide +kernel
theorem dX1_init_1 : decode cX1_init 1 = .ok (.invokespecial 3, 3) := by decide +kernel
theorem dX1_init_4 : decode cX1_init 4 = .ok (.aload_n 0, 1) := by decide +kernel
theorem dX1_init_5 : decode cX1_init 5 = .ok (.sipush 3072, 3) := by decide +kernel
theorem dX1_init_8 : decode cX1_init 8 = .ok (.newarray .int, 2) := by decide +kernel
theorem dX1_init_10 : decode cX1_init 10 = .ok (.putfield 9, 3) := by decide +kernel
theorem dX1_init_13 : decode cX1_init 13 = .ok (.aload_n 0, 1) := by decide +kernel
theorem dX1_init_14 : decode cX1_init 14 = .ok (.iconst (-1), 1) := by decide +kernel
theorem dX1_init_15 : decode cX1_init 15 = .ok (.putfield 15, 3) := by decide +kernel
theorem dX1_init_18 : decode cX1_init 18 = .ok (.aload_n 0, 1) := by decide +kernel
theorem dX1_init_19 : decode cX1_init 19 = .ok (.aload_n 1, 1) := by decide +kernel
theorem dX1_init_20 : decode cX1_init 20 = .ok (.putfield 19, 3) := by decide +kernel
theorem dX1_init_23 : decode cX1_init 23 = .ok (.return_, 1) := by decide +kernel
theorem dX1_row_0 : decode cX1_row 0 = .ok (.iload_n 0, 1) := by decide +kernel
theorem dX1_row_1 : decode cX1_row 1 = .ok (.bipush 12, 2) := by decide +kernel
theorem dX1_row_3 : decode cX1_row 3 = .ok (.imul, 1) := by decide +kernel
theorem dX1_row_4 : decode cX1_row 4 = .ok (.iload_n 1, 1) := by decide +kernel
theorem dX1_row_5 : decode cX1_row 5 = .ok (.iadd, 1) := by decide +kernel
theorem dX1_row_6 : decode cX1_row 6 = .ok (.bipush 16, 2) := by decide +kernel
theorem dX1_row_8 : decode cX1_row 8 = .ok (.imul, 1) := by decide +kernel
theorem dX1_row_9 : decode cX1_row 9 = .ok (.ireturn, 1) := by decide +kernel
theorem dX1_bringUpToDate_0 : decode cX1_bringUpToDate 0 = .ok (.aload_n 0, 1) := by decide +kernel
theorem dX1_bringUpToDate_1 : decode cX1_bringUpToDate 1 = .ok (.getfield 15, 3) := by decide +kernel
theorem dX1_bringUpToDate_4 : decode cX1_bringUpToDate 4 = .ok (.aload_n 0, 1) := by decide +kernel
theorem dX1_bringUpToDate_5 : decode cX1_bringUpToDate 5 = .ok (.getfield 19, 3) := by decide +kernel
theorem dX1_bringUpToDate_8 : decode cX1_bringUpToDate 8 = .ok (.getfield 23, 3) := by decide +kernel
theorem dX1_bringUpToDate_11 : decode cX1_bringUpToDate 11 = .ok (.if_icmp .ne 4, 3) := by decide +kernel
theorem dX1_bringUpToDate_14 : decode cX1_bringUpToDate 14 = .ok (.return_, 1) := by decide +kernel
theorem dX1_bringUpToDate_15 : decode cX1_bringUpToDate 15 = .ok (.aload_n 0, 1) := by decide +kernel
theorem dX1_bringUpToDate_16 : decode cX1_bringUpToDate 16 = .ok (.aload_n 0, 1) := by decide +kernel
theorem dX1_bringUpToDate_17 : decode cX1_bringUpToDate 17 = .ok (.getfield 19, 3) := by decide +kernel
theorem dX1_bringUpToDate_20 : decode cX1_bringUpToDate 20 = .ok (.getfield 23, 3) := by decide +kernel
theorem dX1_bringUpToDate_23 : decode cX1_bringUpToDate 23 = .ok (.putfield 15, 3) := by decide +kernel
theorem dX1_bringUpToDate_26 : decode cX1_bringUpToDate 26 = .ok (.aload_n 0, 1) := by decide +kernel
theorem dX1_bringUpToDate_27 : decode cX1_bringUpToDate 27 = .ok (.invokevirtual 28, 3) := by decide +kernel
theorem dX1_bringUpToDate_30 : decode cX1_bringUpToDate 30 = .ok (.iconst 1, 1) := by decide +kernel
theorem dX1_bringUpToDate_31 : decode cX1_bringUpToDate 31 = .ok (.istore_n 1, 1) := by decide +kernel
theorem dX1_bringUpToDate_32 : decode cX1_bringUpToDate 32 = .ok (.iconst 0, 1) := by decide +kernel
theorem dX1_bringUpToDate_33 : decode cX1_bringUpToDate 33 = .ok (.istore_n 2, 1) := by decide +kernel
theorem dX1_bringUpToDate_34 : decode cX1_bringUpToDate 34 = .ok (.iload_n 2, 1) := by decide +kernel
theorem dX1_bringUpToDate_35 : decode cX1_bringUpToDate 35 = .ok (.ldc 31, 2) := by decide +kernel
theorem dX1_bringUpToDate_37 : decode cX1_bringUpToDate 37 = .ok (.if_icmp .ge 42, 3) := by decide +kernel
theorem dX1_bringUpToDate_40 : decode cX1_bringUpToDate 40 = .ok (.iload_n 1, 1) := by decide +kernel
theorem dX1_bringUpToDate_41 : decode cX1_bringUpToDate 41 = .ok (.ifCond .eq 38, 3) := by decide +kernel
theorem dX1_bringUpToDate_44 : decode cX1_bringUpToDate 44 = .ok (.iconst 0, 1) := by decide +kernel
theorem dX1_bringUpToDate_45 : decode cX1_bringUpToDate 45 = .ok (.istore_n 1, 1) := by decide +kernel
theorem dX1_bringUpToDate_46 : decode cX1_bringUpToDate 46 = .ok (.iconst 0, 1) := by decide +kernel
theorem dX1_bringUpToDate_47 : decode cX1_bringUpToDate 47 = .ok (.istore_n 3, 1) := by decide +kernel
theorem dX1_bringUpToDate_48 : decode cX1_bringUpToDate 48 = .ok (.iload_n 3, 1) := by decide +kernel
theorem dX1_bringUpToDate_49 : decode cX1_bringUpToDate 49 = .ok (.aload_n 0, 1) := by decide +kernel
theorem dX1_bringUpToDate_50 : decode cX1_bringUpToDate 50 = .ok (.getfield 19, 3) := by decide +kernel
theorem dX1_bringUpToDate_53 : decode cX1_bringUpToDate 53 = .ok (.getfield 32, 3) := by decide +kernel
theorem dX1_bringUpToDate_56 : decode cX1_bringUpToDate 56 = .ok (.if_icmp .ge 17, 3) := by decide +kernel
theorem dX1_bringUpToDate_59 : decode cX1_bringUpToDate 59 = .ok (.iload_n 1, 1) := by decide +kernel
theorem dX1_bringUpToDate_60 : decode cX1_bringUpToDate 60 = .ok (.aload_n 0, 1) := by decide +kernel
theorem dX1_bringUpToDate_61 : decode cX1_bringUpToDate 61 = .ok (.iload_n 3, 1) := by decide +kernel
theorem dX1_bringUpToDate_62 : decode cX1_bringUpToDate 62 = .ok (.invokevirtual 35, 3) := by decide +kernel
theorem dX1_bringUpToDate_65 : decode cX1_bringUpToDate 65 = .ok (.ior, 1) := by decide +kernel
theorem dX1_bringUpToDate_66 : decode cX1_bringUpToDate 66 = .ok (.istore_n 1, 1) := by decide +kernel
theorem dX1_bringUpToDate_67 : decode cX1_bringUpToDate 67 = .ok (.iinc 3 1, 3) := by decide +kernel
theorem dX1_bringUpToDate_70 : decode cX1_bringUpToDate 70 = .ok (.goto (-22), 3) := by decide +kernel
theorem dX1_bringUpToDate_73 : decode cX1_bringUpToDate 73 = .ok (.iinc 2 1, 3) := by decide +kernel
theorem dX1_bringUpToDate_76 : decode cX1_bringUpToDate 76 = .ok (.goto (-42), 3) := by decide +kernel
theorem dX1_bringUpToDate_79 : decode cX1_bringUpToDate 79 = .ok (.return_, 1) := by decide +kernel
theorem dX1_startFromNet_0 : decode cX1_startFromNet 0 = .ok (.iconst 0, 1) := by decide +kernel
theorem dX1_startFromNet_1 : decode cX1_startFromNet 1 = .ok (.istore_n 1, 1) := by decide +kernel
theorem dX1_startFromNet_2 : decode cX1_startFromNet 2 = .ok (.iload_n 1, 1) := by decide +kernel
theorem dX1_startFromNet_3 : decode cX1_startFromNet 3 = .ok (.sipush 192, 3) := by decide +kernel
theorem dX1_startFromNet_6 : decode cX1_startFromNet 6 = .ok (.if_icmp .ge 56, 3) := by decide +kernel
theorem dX1_startFromNet_9 : decode cX1_startFromNet 9 = .ok (.iconst 0, 1) := by decide +kernel
theorem dX1_startFromNet_10 : decode cX1_startFromNet 10 = .ok (.istore_n 2, 1) := by decide +kernel
theorem dX1_startFromNet_11 : decode cX1_startFromNet 11 = .ok (.iload_n 2, 1) := by decide +kernel
theorem dX1_startFromNet_12 : decode cX1_startFromNet 12 = .ok (.bipush 16, 2) := by decide +kernel
theorem dX1_startFromNet_14 : decode cX1_startFromNet 14 = .ok (.if_icmp .ge 42, 3) := by decide +kernel
theorem dX1_startFromNet_17 : decode cX1_startFromNet 17 = .ok (.aload_n 0, 1) := by decide +kernel
theorem dX1_startFromNet_18 : decode cX1_startFromNet 18 = .ok (.getfield 9, 3) := by decide +kernel
theorem dX1_startFromNet_21 : decode cX1_startFromNet 21 = .ok (.iload_n 1, 1) := by decide +kernel
theorem dX1_startFromNet_22 : decode cX1_startFromNet 22 = .ok (.bipush 16, 2) := by decide +kernel
theorem dX1_startFromNet_24 : decode cX1_startFromNet 24 = .ok (.imul, 1) := by decide +kernel
theorem dX1_startFromNet_25 : decode cX1_startFromNet 25 = .ok (.iload_n 2, 1) := by decide +kernel
theorem dX1_startFromNet_26 : decode cX1_startFromNet 26 = .ok (.iadd, 1) := by decide +kernel
theorem dX1_startFromNet_27 : decode cX1_startFromNet 27 = .ok (.aload_n 0, 1) := by decide +kernel
theorem dX1_startFromNet_28 : decode cX1_startFromNet 28 = .ok (.getfield 19, 3) := by decide +kernel
theorem dX1_startFromNet_31 : decode cX1_startFromNet 31 = .ok (.getfield 39, 3) := by decide +kernel
theorem dX1_startFromNet_34 : decode cX1_startFromNet 34 = .ok (.iload_n 1, 1) := by decide +kernel
theorem dX1_startFromNet_35 : decode cX1_startFromNet 35 = .ok (.iaload, 1) := by decide +kernel
theorem dX1_startFromNet_36 : decode cX1_startFromNet 36 = .ok (.iload_n 2, 1) := by decide +kernel
theorem dX1_startFromNet_37 : decode cX1_startFromNet 37 = .ok (.iushr, 1) := by decide +kernel
theorem dX1_startFromNet_38 : decode cX1_startFromNet 38 = .ok (.iconst 1, 1) := by decide +kernel
theorem dX1_startFromNet_39 : decode cX1_startFromNet 39 = .ok (.iand, 1) := by decide +kernel
theorem dX1_startFromNet_40 : decode cX1_startFromNet 40 = .ok (.ifCond .eq 7, 3) := by decide +kernel
theorem dX1_startFromNet_43 : decode cX1_startFromNet 43 = .ok (.iconst 0, 1) := by decide +kernel
theorem dX1_startFromNet_44 : decode cX1_startFromNet 44 = .ok (.goto 5, 3) := by decide +kernel
theorem dX1_startFromNet_47 : decode cX1_startFromNet 47 = .ok (.ldc 42, 2) := by decide +kernel
theorem dX1_startFromNet_49 : decode cX1_startFromNet 49 = .ok (.iastore, 1) := by decide +kernel
theorem dX1_startFromNet_50 : decode cX1_startFromNet 50 = .ok (.iinc 2 1, 3) := by decide +kernel
theorem dX1_startFromNet_53 : decode cX1_startFromNet 53 = .ok (.goto (-42), 3) := by decide +kernel
theorem dX1_startFromNet_56 : decode cX1_startFromNet 56 = .ok (.iinc 1 1, 3) := by decide +kernel
theorem dX1_startFromNet_59 : decode cX1_startFromNet 59 = .ok (.goto (-57), 3) := by decide +kernel
theorem dX1_startFromNet_62 : decode cX1_startFromNet 62 = .ok (.return_, 1) := by decide +kernel
theorem dX1_useRule_0 : decode cX1_useRule 0 = .ok (.aload_n 0, 1) := by decide +kernel
theorem dX1_useRule_1 : decode cX1_useRule 1 = .ok (.getfield 19, 3) := by decide +kernel
theorem dX1_useRule_4 : decode cX1_useRule 4 = .ok (.getfield 43, 3) := by decide +kernel
theorem dX1_useRule_7 : decode cX1_useRule 7 = .ok (.iload_n 1, 1) := by decide +kernel
theorem dX1_useRule_8 : decode cX1_useRule 8 = .ok (.iaload, 1) := by decide +kernel
theorem dX1_useRule_9 : decode cX1_useRule 9 = .ok (.aload_n 0, 1) := by decide +kernel
theorem dX1_useRule_10 : decode cX1_useRule 10 = .ok (.getfield 19, 3) := by decide +kernel
theorem dX1_useRule_13 : decode cX1_useRule 13 = .ok (.getfield 46, 3) := by decide +kernel
theorem dX1_useRule_16 : decode cX1_useRule 16 = .ok (.iload_n 1, 1) := by decide +kernel
theorem dX1_useRule_17 : decode cX1_useRule 17 = .ok (.iaload, 1) := by decide +kernel
theorem dX1_useRule_18 : decode cX1_useRule 18 = .ok (.invokestatic 49, 3) := by decide +kernel
theorem dX1_useRule_21 : decode cX1_useRule 21 = .ok (.istore_n 2, 1) := by decide +kernel
theorem dX1_useRule_22 : decode cX1_useRule 22 = .ok (.aload_n 0, 1) := by decide +kernel
theorem dX1_useRule_23 : decode cX1_useRule 23 = .ok (.getfield 19, 3) := by decide +kernel
theorem dX1_useRule_26 : decode cX1_useRule 26 = .ok (.getfield 53, 3) := by decide +kernel
theorem dX1_useRule_29 : decode cX1_useRule 29 = .ok (.iload_n 1, 1) := by decide +kernel
theorem dX1_useRule_30 : decode cX1_useRule 30 = .ok (.iaload, 1) := by decide +kernel
theorem dX1_useRule_31 : decode cX1_useRule 31 = .ok (.ifCond .ne 20, 3) := by decide +kernel
theorem dX1_useRule_34 : decode cX1_useRule 34 = .ok (.aload_n 0, 1) := by decide +kernel
theorem dX1_useRule_35 : decode cX1_useRule 35 = .ok (.iload_n 2, 1) := by decide +kernel
theorem dX1_useRule_36 : decode cX1_useRule 36 = .ok (.aload_n 0, 1) := by decide +kernel
theorem dX1_useRule_37 : decode cX1_useRule 37 = .ok (.getfield 19, 3) := by decide +kernel
theorem dX1_useRule_40 : decode cX1_useRule 40 = .ok (.getfield 56, 3) := by decide +kernel
theorem dX1_useRule_43 : decode cX1_useRule 43 = .ok (.iload_n 1, 1) := by decide +kernel
theorem dX1_useRule_44 : decode cX1_useRule 44 = .ok (.iaload, 1) := by decide +kernel
theorem dX1_useRule_45 : decode cX1_useRule 45 = .ok (.iadd, 1) := by decide +kernel
theorem dX1_useRule_46 : decode cX1_useRule 46 = .ok (.iconst 1, 1) := by decide +kernel
theorem dX1_useRule_47 : decode cX1_useRule 47 = .ok (.invokevirtual 59, 3) := by decide +kernel
theorem dX1_useRule_50 : decode cX1_useRule 50 = .ok (.ireturn, 1) := by decide +kernel
theorem dX1_useRule_51 : decode cX1_useRule 51 = .ok (.aload_n 0, 1) := by decide +kernel
theorem dX1_useRule_52 : decode cX1_useRule 52 = .ok (.getfield 19, 3) := by decide +kernel
theorem dX1_useRule_55 : decode cX1_useRule 55 = .ok (.getfield 56, 3) := by decide +kernel
theorem dX1_useRule_58 : decode cX1_useRule 58 = .ok (.iload_n 1, 1) := by decide +kernel
theorem dX1_useRule_59 : decode cX1_useRule 59 = .ok (.iaload, 1) := by decide +kernel
theorem dX1_useRule_60 : decode cX1_useRule 60 = .ok (.aload_n 0, 1) := by decide +kernel
theorem dX1_useRule_61 : decode cX1_useRule 61 = .ok (.getfield 19, 3) := by decide +kernel
theorem dX1_useRule_64 : decode cX1_useRule 64 = .ok (.getfield 63, 3) := by decide +kernel
theorem dX1_useRule_67 : decode cX1_useRule 67 = .ok (.iload_n 1, 1) := by decide +kernel
theorem dX1_useRule_68 : decode cX1_useRule 68 = .ok (.iaload, 1) := by decide +kernel
theorem dX1_useRule_69 : decode cX1_useRule 69 = .ok (.invokestatic 49, 3) := by decide +kernel
theorem dX1_useRule_72 : decode cX1_useRule 72 = .ok (.istore_n 3, 1) := by decide +kernel
theorem dX1_useRule_73 : decode cX1_useRule 73 = .ok (.aload_n 0, 1) := by decide +kernel
theorem dX1_useRule_74 : decode cX1_useRule 74 = .ok (.getfield 19, 3) := by decide +kernel
theorem dX1_useRule_77 : decode cX1_useRule 77 = .ok (.getfield 53, 3) := by decide +kernel
theorem dX1_useRule_80 : decode cX1_useRule 80 = .ok (.iload_n 1, 1) := by decide +kernel
theorem dX1_useRule_81 : decode cX1_useRule 81 = .ok (.iaload, 1) := by decide +kernel
theorem dX1_useRule_82 : decode cX1_useRule 82 = .ok (.iconst 1, 1) := by decide +kernel
theorem dX1_useRule_83 : decode cX1_useRule 83 = .ok (.if_icmp .ne 11, 3) := by decide +kernel
theorem dX1_useRule_86 : decode cX1_useRule 86 = .ok (.aload_n 0, 1) := by decide +kernel
theorem dX1_useRule_87 : decode cX1_useRule 87 = .ok (.iload_n 2, 1) := by decide +kernel
theorem dX1_useRule_88 : decode cX1_useRule 88 = .ok (.iload_n 3, 1) := by decide +kernel
theorem dX1_useRule_89 : decode cX1_useRule 89 = .ok (.iconst 1, 1) := by decide +kernel
theorem dX1_useRule_90 : decode cX1_useRule 90 = .ok (.invokevirtual 66, 3) := by decide +kernel
theorem dX1_useRule_93 : decode cX1_useRule 93 = .ok (.ireturn, 1) := by decide +kernel
theorem dX1_useRule_94 : decode cX1_useRule 94 = .ok (.iconst 0, 1) := by decide +kernel
theorem dX1_useRule_95 : decode cX1_useRule 95 = .ok (.istore 4, 2) := by decide +kernel
theorem dX1_useRule_97 : decode cX1_useRule 97 = .ok (.iconst 0, 1) := by decide +kernel
theorem dX1_useRule_98 : decode cX1_useRule 98 = .ok (.istore 5, 2) := by decide +kernel
theorem dX1_useRule_100 : decode cX1_useRule 100 = .ok (.iload 5, 2) := by decide +kernel
theorem dX1_useRule_102 : decode cX1_useRule 102 = .ok (.bipush 16, 2) := by decide +kernel
theorem dX1_useRule_104 : decode cX1_useRule 104 = .ok (.if_icmp .ge 55, 3) := by decide +kernel
theorem dX1_useRule_107 : decode cX1_useRule 107 = .ok (.aload_n 0, 1) := by decide +kernel
theorem dX1_useRule_108 : decode cX1_useRule 108 = .ok (.getfield 9, 3) := by decide +kernel
theorem dX1_useRule_111 : decode cX1_useRule 111 = .ok (.iload_n 3, 1) := by decide +kernel
theorem dX1_useRule_112 : decode cX1_useRule 112 = .ok (.iload 5, 2) := by decide +kernel
theorem dX1_useRule_114 : decode cX1_useRule 114 = .ok (.iadd, 1) := by decide +kernel
theorem dX1_useRule_115 : decode cX1_useRule 115 = .ok (.iaload, 1) := by decide +kernel
theorem dX1_useRule_116 : decode cX1_useRule 116 = .ok (.istore 6, 2) := by decide +kernel
theorem dX1_useRule_118 : decode cX1_useRule 118 = .ok (.iload 6, 2) := by decide +kernel
theorem dX1_useRule_120 : decode cX1_useRule 120 = .ok (.ldc 42, 2) := by decide +kernel
theorem dX1_useRule_122 : decode cX1_useRule 122 = .ok (.if_icmp .ge 31, 3) := by decide +kernel
theorem dX1_useRule_125 : decode cX1_useRule 125 = .ok (.iload 4, 2) := by decide +kernel
theorem dX1_useRule_127 : decode cX1_useRule 127 = .ok (.aload_n 0, 1) := by decide +kernel
theorem dX1_useRule_128 : decode cX1_useRule 128 = .ok (.iload_n 2, 1) := by decide +kernel
theorem dX1_useRule_129 : decode cX1_useRule 129 = .ok (.iload 5, 2) := by decide +kernel
theorem dX1_useRule_131 : decode cX1_useRule 131 = .ok (.aload_n 0, 1) := by decide +kernel
theorem dX1_useRule_132 : decode cX1_useRule 132 = .ok (.getfield 19, 3) := by decide +kernel
theorem dX1_useRule_135 : decode cX1_useRule 135 = .ok (.getfield 70, 3) := by decide +kernel
theorem dX1_useRule_138 : decode cX1_useRule 138 = .ok (.iload_n 1, 1) := by decide +kernel
theorem dX1_useRule_139 : decode cX1_useRule 139 = .ok (.iaload, 1) := by decide +kernel
theorem dX1_useRule_140 : decode cX1_useRule 140 = .ok (.invokestatic 49, 3) := by decide +kernel
theorem dX1_useRule_143 : decode cX1_useRule 143 = .ok (.iload 6, 2) := by decide +kernel
theorem dX1_useRule_145 : decode cX1_useRule 145 = .ok (.iconst 1, 1) := by decide +kernel
theorem dX1_useRule_146 : decode cX1_useRule 146 = .ok (.iadd, 1) := by decide +kernel
theorem dX1_useRule_147 : decode cX1_useRule 147 = .ok (.invokevirtual 66, 3) := by decide +kernel
theorem dX1_useRule_150 : decode cX1_useRule 150 = .ok (.ior, 1) := by decide +kernel
theorem dX1_useRule_151 : decode cX1_useRule 151 = .ok (.istore 4, 2) := by decide +kernel
theorem dX1_useRule_153 : decode cX1_useRule 153 = .ok (.iinc 5 1, 3) := by decide +kernel
theorem dX1_useRule_156 : decode cX1_useRule 156 = .ok (.goto (-56), 3) := by decide +kernel
theorem dX1_useRule_159 : decode cX1_useRule 159 = .ok (.iload 4, 2) := by decide +kernel
theorem dX1_useRule_161 : decode cX1_useRule 161 = .ok (.ireturn, 1) := by decide +kernel
theorem dX1_lowerRow_0 : decode cX1_lowerRow 0 = .ok (.iconst 0, 1) := by decide +kernel
theorem dX1_lowerRow_1 : decode cX1_lowerRow 1 = .ok (.istore 4, 2) := by decide +kernel
theorem dX1_lowerRow_3 : decode cX1_lowerRow 3 = .ok (.iconst 0, 1) := by decide +kernel
theorem dX1_lowerRow_4 : decode cX1_lowerRow 4 = .ok (.istore 5, 2) := by decide +kernel
theorem dX1_lowerRow_6 : decode cX1_lowerRow 6 = .ok (.iload 5, 2) := by decide +kernel
theorem dX1_lowerRow_8 : decode cX1_lowerRow 8 = .ok (.bipush 16, 2) := by decide +kernel
theorem dX1_lowerRow_10 : decode cX1_lowerRow 10 = .ok (.if_icmp .ge 47, 3) := by decide +kernel
theorem dX1_lowerRow_13 : decode cX1_lowerRow 13 = .ok (.aload_n 0, 1) := by decide +kernel
theorem dX1_lowerRow_14 : decode cX1_lowerRow 14 = .ok (.getfield 9, 3) := by decide +kernel
theorem dX1_lowerRow_17 : decode cX1_lowerRow 17 = .ok (.iload_n 2, 1) := by decide +kernel
theorem dX1_lowerRow_18 : decode cX1_lowerRow 18 = .ok (.iload 5, 2) := by decide +kernel
theorem dX1_lowerRow_20 : decode cX1_lowerRow 20 = .ok (.iadd, 1) := by decide +kernel
theorem dX1_lowerRow_21 : decode cX1_lowerRow 21 = .ok (.iaload, 1) := by decide +kernel
theorem dX1_lowerRow_22 : decode cX1_lowerRow 22 = .ok (.ldc 42, 2) := by decide +kernel
theorem dX1_lowerRow_24 : decode cX1_lowerRow 24 = .ok (.if_icmp .ge 27, 3) := by decide +kernel
theorem dX1_lowerRow_27 : decode cX1_lowerRow 27 = .ok (.iload 4, 2) := by decide +kernel
theorem dX1_lowerRow_29 : decode cX1_lowerRow 29 = .ok (.aload_n 0, 1) := by decide +kernel
theorem dX1_lowerRow_30 : decode cX1_lowerRow 30 = .ok (.iload_n 1, 1) := by decide +kernel
theorem dX1_lowerRow_31 : decode cX1_lowerRow 31 = .ok (.iload 5, 2) := by decide +kernel
theorem dX1_lowerRow_33 : decode cX1_lowerRow 33 = .ok (.iadd, 1) := by decide +kernel
theorem dX1_lowerRow_34 : decode cX1_lowerRow 34 = .ok (.aload_n 0, 1) := by decide +kernel
theorem dX1_lowerRow_35 : decode cX1_lowerRow 35 = .ok (.getfield 9, 3) := by decide +kernel
theorem dX1_lowerRow_38 : decode cX1_lowerRow 38 = .ok (.iload_n 2, 1) := by decide +kernel
theorem dX1_lowerRow_39 : decode cX1_lowerRow 39 = .ok (.iload 5, 2) := by decide +kernel
theorem dX1_lowerRow_41 : decode cX1_lowerRow 41 = .ok (.iadd, 1) := by decide +kernel
theorem dX1_lowerRow_42 : decode cX1_lowerRow 42 = .ok (.iaload, 1) := by decide +kernel
theorem dX1_lowerRow_43 : decode cX1_lowerRow 43 = .ok (.iload_n 3, 1) := by decide +kernel
theorem dX1_lowerRow_44 : decode cX1_lowerRow 44 = .ok (.iadd, 1) := by decide +kernel
theorem dX1_lowerRow_45 : decode cX1_lowerRow 45 = .ok (.invokevirtual 59, 3) := by decide +kernel
theorem dX1_lowerRow_48 : decode cX1_lowerRow 48 = .ok (.ior, 1) := by decide +kernel
theorem dX1_lowerRow_49 : decode cX1_lowerRow 49 = .ok (.istore 4, 2) := by decide +kernel
theorem dX1_lowerRow_51 : decode cX1_lowerRow 51 = .ok (.iinc 5 1, 3) := by decide +kernel
theorem dX1_lowerRow_54 : decode cX1_lowerRow 54 = .ok (.goto (-48), 3) := by decide +kernel
theorem dX1_lowerRow_57 : decode cX1_lowerRow 57 = .ok (.iload 4, 2) := by decide +kernel
theorem dX1_lowerRow_59 : decode cX1_lowerRow 59 = .ok (.ireturn, 1) := by decide +kernel
theorem dX1_lower_0 : decode cX1_lower 0 = .ok (.iload_n 2, 1) := by decide +kernel
theorem dX1_lower_1 : decode cX1_lower 1 = .ok (.ldc 31, 2) := by decide +kernel
theorem dX1_lower_3 : decode cX1_lower 3 = .ok (.invokestatic 73, 3) := by decide +kernel
theorem dX1_lower_6 : decode cX1_lower 6 = .ok (.istore_n 3, 1) := by decide +kernel
theorem dX1_lower_7 : decode cX1_lower 7 = .ok (.iload_n 3, 1) := by decide +kernel
theorem dX1_lower_8 : decode cX1_lower 8 = .ok (.aload_n 0, 1) := by decide +kernel
theorem dX1_lower_9 : decode cX1_lower 9 = .ok (.getfield 9, 3) := by decide +kernel
theorem dX1_lower_12 : decode cX1_lower 12 = .ok (.iload_n 1, 1) := by decide +kernel
theorem dX1_lower_13 : decode cX1_lower 13 = .ok (.iaload, 1) := by decide +kernel
theorem dX1_lower_14 : decode cX1_lower 14 = .ok (.if_icmp .lt 5, 3) := by decide +kernel
theorem dX1_lower_17 : decode cX1_lower 17 = .ok (.iconst 0, 1) := by decide +kernel
theorem dX1_lower_18 : decode cX1_lower 18 = .ok (.ireturn, 1) := by decide +kernel
theorem dX1_lower_19 : decode cX1_lower 19 = .ok (.aload_n 0, 1) := by decide +kernel
theorem dX1_lower_20 : decode cX1_lower 20 = .ok (.getfield 9, 3) := by decide +kernel
theorem dX1_lower_23 : decode cX1_lower 23 = .ok (.iload_n 1, 1) := by decide +kernel
theorem dX1_lower_24 : decode cX1_lower 24 = .ok (.iload_n 3, 1) := by decide +kernel
theorem dX1_lower_25 : decode cX1_lower 25 = .ok (.iastore, 1) := by decide +kernel
theorem dX1_lower_26 : decode cX1_lower 26 = .ok (.iconst 1, 1) := by decide +kernel
theorem dX1_lower_27 : decode cX1_lower 27 = .ok (.ireturn, 1) := by decide +kernel
theorem dX2_init_0 : decode cX2_init 0 = .ok (.aload_n 0, 1) := by decide +kernel
theorem dX2_init_1 : decode cX2_init 1 = .ok (.invokespecial 3, 3) := by decide +kernel
theorem dX2_init_4 : decode cX2_init 4 = .ok (.aload_n 0, 1) := by decide +kernel
theorem dX2_init_5 : decode cX2_init 5 = .ok (.iconst 5, 1) := by decide +kernel
theorem dX2_init_6 : decode cX2_init 6 = .ok (.newarray .long, 2) := by decide +kernel
theorem dX2_init_8 : decode cX2_init 8 = .ok (.putfield 9, 3) := by decide +kernel
theorem dX2_init_11 : decode cX2_init 11 = .ok (.aload_n 0, 1) := by decide +kernel
theorem dX2_init_12 : decode cX2_init 12 = .ok (.bipush 6, 2) := by decide +kernel
theorem dX2_init_14 : decode cX2_init 14 = .ok (.newarray .long, 2) := by decide +kernel
theorem dX2_init_16 : decode cX2_init 16 = .ok (.putfield 15, 3) := by decide +kernel
theorem dX2_init_19 : decode cX2_init 19 = .ok (.aload_n 0, 1) := by decide +kernel
theorem dX2_init_20 : decode cX2_init 20 = .ok (.bipush 40, 2) := by decide +kernel
theorem dX2_init_22 : decode cX2_init 22 = .ok (.newarray .long, 2) := by decide +kernel
theorem dX2_init_24 : decode cX2_init 24 = .ok (.putfield 18, 3) := by decide +kernel
theorem dX2_init_27 : decode cX2_init 27 = .ok (.aload_n 0, 1) := by decide +kernel
theorem dX2_init_28 : decode cX2_init 28 = .ok (.bipush 40, 2) := by decide +kernel
theorem dX2_init_30 : decode cX2_init 30 = .ok (.newarray .int, 2) := by decide +kernel
theorem dX2_init_32 : decode cX2_init 32 = .ok (.putfield 21, 3) := by decide +kernel
theorem dX2_init_35 : decode cX2_init 35 = .ok (.aload_n 0, 1) := by decide +kernel
theorem dX2_init_36 : decode cX2_init 36 = .ok (.aload_n 1, 1) := by decide +kernel
theorem dX2_init_37 : decode cX2_init 37 = .ok (.putfield 25, 3) := by decide +kernel
theorem dX2_init_40 : decode cX2_init 40 = .ok (.aload_n 0, 1) := by decide +kernel
theorem dX2_init_41 : decode cX2_init 41 = .ok (.aload_n 2, 1) := by decide +kernel
theorem dX2_init_42 : decode cX2_init 42 = .ok (.putfield 29, 3) := by decide +kernel
theorem dX2_init_45 : decode cX2_init 45 = .ok (.return_, 1) := by decide +kernel
theorem dX2_readProgram_0 : decode cX2_readProgram 0 = .ok (.aload_n 0, 1) := by decide +kernel
theorem dX2_readProgram_1 : decode cX2_readProgram 1 = .ok (.getfield 29, 3) := by decide +kernel
theorem dX2_readProgram_4 : decode cX2_readProgram 4 = .ok (.invokevirtual 33, 3) := by decide +kernel
theorem dX2_readProgram_7 : decode cX2_readProgram 7 = .ok (.aload_n 0, 1) := by decide +kernel
theorem dX2_readProgram_8 : decode cX2_readProgram 8 = .ok (.iconst 0, 1) := by decide +kernel
theorem dX2_readProgram_9 : decode cX2_readProgram 9 = .ok (.putfield 38, 3) := by decide +kernel
theorem dX2_readProgram_12 : decode cX2_readProgram 12 = .ok (.aload_n 0, 1) := by decide +kernel
theorem dX2_readProgram_13 : decode cX2_readProgram 13 = .ok (.getfield 25, 3) := by decide +kernel
theorem dX2_readProgram_16 : decode cX2_readProgram 16 = .ok (.invokevirtual 42, 3) := by decide +kernel
theorem dX2_readProgram_19 : decode cX2_readProgram 19 = .ok (.aload_n 0, 1) := by decide +kernel
theorem dX2_readProgram_20 : decode cX2_readProgram 20 = .ok (.getfield 25, 3) := by decide +kernel
theorem dX2_readProgram_23 : decode cX2_readProgram 23 = .ok (.getfield 47, 3) := by decide +kernel
theorem dX2_readProgram_26 : decode cX2_readProgram 26 = .ok (.sipush 259, 3) := by decide +kernel
theorem dX2_readProgram_29 : decode cX2_readProgram 29 = .ok (.if_icmp .ne 8, 3) := by decide +kernel
theorem dX2_readProgram_32 : decode cX2_readProgram 32 = .ok (.aload_n 0, 1) := by decide +kernel
theorem dX2_readProgram_33 : decode cX2_readProgram 33 = .ok (.iconst 0, 1) := by decide +kernel
theorem dX2_readProgram_34 : decode cX2_readProgram 34 = .ok (.invokevirtual 50, 3) := by decide +kernel
theorem dX2_readProgram_37 : decode cX2_readProgram 37 = .ok (.aload_n 0, 1) := by decide +kernel
theorem dX2_readProgram_38 : decode cX2_readProgram 38 = .ok (.invokevirtual 54, 3) := by decide +kernel
theorem dX2_readProgram_41 : decode cX2_readProgram 41 = .ok (.iconst 0, 1) := by decide +kernel
theorem dX2_readProgram_42 : decode cX2_readProgram 42 = .ok (.istore_n 1, 1) := by decide +kernel
theorem dX2_readProgram_43 : decode cX2_readProgram 43 = .ok (.iload_n 1, 1) := by decide +kernel
theorem dX2_readProgram_44 : decode cX2_readProgram 44 = .ok (.bipush 6, 2) := by decide +kernel
theorem dX2_readProgram_46 : decode cX2_readProgram 46 = .ok (.if_icmp .ge 26, 3) := by decide +kernel
theorem dX2_readProgram_49 : decode cX2_readProgram 49 = .ok (.aload_n 0, 1) := by decide +kernel
theorem dX2_readProgram_50 : decode cX2_readProgram 50 = .ok (.getfield 25, 3) := by decide +kernel
theorem dX2_readProgram_53 : decode cX2_readProgram 53 = .ok (.getfield 47, 3) := by decide +kernel
theorem dX2_readProgram_56 : decode cX2_readProgram 56 = .ok (.sipush 260, 3) := by decide +kernel
theorem dX2_readProgram_59 : decode cX2_readProgram 59 = .ok (.if_icmp .ne 13, 3) := by decide +kernel
theorem dX2_readProgram_62 : decode cX2_readProgram 62 = .ok (.aload_n 0, 1) := by decide +kernel
theorem dX2_readProgram_63 : decode cX2_readProgram 63 = .ok (.invokevirtual 54, 3) := by decide +kernel
theorem dX2_readProgram_66 : decode cX2_readProgram 66 = .ok (.iinc 1 1, 3) := by decide +kernel
theorem dX2_readProgram_69 : decode cX2_readProgram 69 = .ok (.goto (-26), 3) := by decide +kernel
theorem dX2_readProgram_72 : decode cX2_readProgram 72 = .ok (.aload_n 0, 1) := by decide +kernel
theorem dX2_readProgram_73 : decode cX2_readProgram 73 = .ok (.getfield 25, 3) := by decide +kernel
theorem dX2_readProgram_76 : decode cX2_readProgram 76 = .ok (.getfield 47, 3) := by decide +kernel
theorem dX2_readProgram_79 : decode cX2_readProgram 79 = .ok (.sipush 256, 3) := by decide +kernel
theorem dX2_readProgram_82 : decode cX2_readProgram 82 = .ok (.if_icmp .eq 11, 3) := by decide +kernel
theorem dX2_readProgram_85 : decode cX2_readProgram 85 = .ok (.aload_n 0, 1) := by decide +kernel
theorem dX2_readProgram_86 : decode cX2_readProgram 86 = .ok (.getfield 25, 3) := by decide +kernel
theorem dX2_readProgram_89 : decode cX2_readProgram 89 = .ok (.iconst 2, 1) := by decide +kernel
theorem dX2_readProgram_90 : decode cX2_readProgram 90 = .ok (.invokevirtual 57, 3) := by decide +kernel
theorem dX2_readProgram_93 : decode cX2_readProgram 93 = .ok (.aload_n 0, 1) := by decide +kernel
theorem dX2_readProgram_94 : decode cX2_readProgram 94 = .ok (.invokevirtual 61, 3) := by decide +kernel
theorem dX2_readProgram_97 : decode cX2_readProgram 97 = .ok (.aload_n 0, 1) := by decide +kernel
theorem dX2_readProgram_98 : decode cX2_readProgram 98 = .ok (.getfield 25, 3) := by decide +kernel
theorem dX2_readProgram_101 : decode cX2_readProgram 101 = .ok (.invokevirtual 64, 3) := by decide +kernel
theorem dX2_readProgram_104 : decode cX2_readProgram 104 = .ok (.aload_n 0, 1) := by decide +kernel
theorem dX2_readProgram_105 : decode cX2_readProgram 105 = .ok (.getfield 25, 3) := by decide +kernel
theorem dX2_readProgram_108 : decode cX2_readProgram 108 = .ok (.getfield 67, 3) := by decide +kernel
theorem dX2_readProgram_111 : decode cX2_readProgram 111 = .ok (.ifCond .eq 11, 3) := by decide +kernel
theorem dX2_readProgram_114 : decode cX2_readProgram 114 = .ok (.aload_n 0, 1) := by decide +kernel
theorem dX2_readProgram_115 : decode cX2_readProgram 115 = .ok (.getfield 29, 3) := by decide +kernel
theorem dX2_readProgram_118 : decode cX2_readProgram 118 = .ok (.invokevirtual 33, 3) := by decide +kernel
theorem dX2_readProgram_121 : decode cX2_readProgram 121 = .ok (.return_, 1) := by decide +kernel
theorem dX2_readProgram_122 : decode cX2_readProgram 122 = .ok (.aload_n 0, 1) := by decide +kernel
theorem dX2_readProgram_123 : decode cX2_readProgram 123 = .ok (.getfield 29, 3) := by decide +kernel
theorem dX2_readProgram_126 : decode cX2_readProgram 126 = .ok (.invokevirtual 70, 3) := by decide +kernel
theorem dX2_readProgram_129 : decode cX2_readProgram 129 = .ok (.aload_n 0, 1) := by decide +kernel
theorem dX2_readProgram_130 : decode cX2_readProgram 130 = .ok (.getfield 29, 3) := by decide +kernel
theorem dX2_readProgram_133 : decode cX2_readProgram 133 = .ok (.iconst 1, 1) := by decide +kernel
theorem dX2_readProgram_134 : decode cX2_readProgram 134 = .ok (.putfield 73, 3) := by decide +kernel
theorem dX2_readProgram_137 : decode cX2_readProgram 137 = .ok (.return_, 1) := by decide +kernel
theorem dX2_readVariables_0 : decode cX2_readVariables 0 = .ok (.aload_n 0, 1) := by decide +kernel
theorem dX2_readVariables_1 : decode cX2_readVariables 1 = .ok (.getfield 25, 3) := by decide +kernel
theorem dX2_readVariables_4 : decode cX2_readVariables 4 = .ok (.invokevirtual 77, 3) := by decide +kernel
theorem dX2_readVariables_7 : decode cX2_readVariables 7 = .ok (.aload_n 0, 1) := by decide +kernel
theorem dX2_readVariables_8 : decode cX2_readVariables 8 = .ok (.iload_n 1, 1) := by decide +kernel
theorem dX2_readVariables_9 : decode cX2_readVariables 9 = .ok (.invokevirtual 80, 3) := by decide +kernel
theorem dX2_readVariables_12 : decode cX2_readVariables 12 = .ok (.iconst 0, 1) := by decide +kernel
theorem dX2_readVariables_13 : decode cX2_readVariables 13 = .ok (.istore_n 2, 1) := by decide +kernel
theorem dX2_readVariables_14 : decode cX2_readVariables 14 = .ok (.iload_n 2, 1) := by decide +kernel
theorem dX2_readVariables_15 : decode cX2_readVariables 15 = .ok (.iconst 3, 1) := by decide +kernel
theorem dX2_readVariables_16 : decode cX2_readVariables 16 = .ok (.if_icmp .ge 33, 3) := by decide +kernel
theorem dX2_readVariables_19 : decode cX2_readVariables 19 = .ok (.aload_n 0, 1) := by decide +kernel
theorem dX2_readVariables_20 : decode cX2_readVariables 20 = .ok (.getfield 25, 3) := by decide +kernel
theorem dX2_readVariables_23 : decode cX2_readVariables 23 = .ok (.getfield 47, 3) := by decide +kernel
theorem dX2_readVariables_26 : decode cX2_readVariables 26 = .ok (.bipush 44, 2) := by decide +kernel
theorem dX2_readVariables_28 : decode cX2_readVariables 28 = .ok (.if_icmp .ne 21, 3) := by decide +kernel
theorem dX2_readVariables_31 : decode cX2_readVariables 31 = .ok (.aload_n 0, 1) := by decide +kernel
theorem dX2_readVariables_32 : decode cX2_readVariables 32 = .ok (.getfield 25, 3) := by decide +kernel
theorem dX2_readVariables_35 : decode cX2_readVariables 35 = .ok (.invokevirtual 77, 3) := by decide +kernel
theorem dX2_readVariables_38 : decode cX2_readVariables 38 = .ok (.aload_n 0, 1) := by decide +kernel
theorem dX2_readVariables_39 : decode cX2_readVariables 39 = .ok (.iload_n 1, 1) := by decide +kernel
theorem dX2_readVariables_40 : decode cX2_readVariables 40 = .ok (.invokevirtual 80, 3) := by decide +kernel
theorem dX2_readVariables_43 : decode cX2_readVariables 43 = .ok (.iinc 2 1, 3) := by decide +kernel
theorem dX2_readVariables_46 : decode cX2_readVariables 46 = .ok (.goto (-32), 3) := by decide +kernel
theorem dX2_readVariables_49 : decode cX2_readVariables 49 = .ok (.aload_n 0, 1) := by decide +kernel
theorem dX2_readVariables_50 : decode cX2_readVariables 50 = .ok (.getfield 25, 3) := by decide +kernel
theorem dX2_readVariables_53 : decode cX2_readVariables 53 = .ok (.bipush 59, 2) := by decide +kernel
theorem dX2_readVariables_55 : decode cX2_readVariables 55 = .ok (.invokevirtual 83, 3) := by decide +kernel
theorem dX2_readVariables_58 : decode cX2_readVariables 58 = .ok (.pop, 1) := by decide +kernel
theorem dX2_readVariables_59 : decode cX2_readVariables 59 = .ok (.return_, 1) := by decide +kernel
theorem dX2_readVariable_0 : decode cX2_readVariable 0 = .ok (.aload_n 0, 1) := by decide +kernel
theorem dX2_readVariable_1 : decode cX2_readVariable 1 = .ok (.getfield 25, 3) := by decide +kernel
theorem dX2_readVariable_4 : decode cX2_readVariable 4 = .ok (.getfield 47, 3) := by decide +kernel
theorem dX2_readVariable_7 : decode cX2_readVariable 7 = .ok (.sipush 258, 3) := by decide +kernel
theorem dX2_readVariable_10 : decode cX2_readVariable 10 = .ok (.if_icmp .eq 12, 3) := by decide +kernel
theorem dX2_readVariable_13 : decode cX2_readVariable 13 = .ok (.aload_n 0, 1) := by decide +kernel
theorem dX2_readVariable_14 : decode cX2_readVariable 14 = .ok (.getfield 25, 3) := by decide +kernel
theorem dX2_readVariable_17 : decode cX2_readVariable 17 = .ok (.iconst 2, 1) := by decide +kernel
theorem dX2_readVariable_18 : decode cX2_readVariable 18 = .ok (.invokevirtual 57, 3) := by decide +kernel
theorem dX2_readVariable_21 : decode cX2_readVariable 21 = .ok (.return_, 1) := by decide +kernel
theorem dX2_readVariable_22 : decode cX2_readVariable 22 = .ok (.iload_n 1, 1) := by decide +kernel
theorem dX2_readVariable_23 : decode cX2_readVariable 23 = .ok (.ifCond .eq 19, 3) := by decide +kernel
theorem dX2_readVariable_26 : decode cX2_readVariable 26 = .ok (.aload_n 0, 1) := by decide +kernel
theorem dX2_readVariable_27 : decode cX2_readVariable 27 = .ok (.getfield 38, 3) := by decide +kernel
theorem dX2_readVariable_30 : decode cX2_readVariable 30 = .ok (.iconst 2, 1) := by decide +kernel
theorem dX2_readVariable_31 : decode cX2_readVariable 31 = .ok (.if_icmp .lt 7, 3) := by decide +kernel
theorem dX2_readVariable_34 : decode cX2_readVariable 34 = .ok (.iconst 1, 1) := by decide +kernel
theorem dX2_readVariable_35 : decode cX2_readVariable 35 = .ok (.goto 23, 3) := by decide +kernel
theorem dX2_readVariable_38 : decode cX2_readVariable 38 = .ok (.iconst 0, 1) := by decide +kernel
theorem dX2_readVariable_39 : decode cX2_readVariable 39 = .ok (.goto 19, 3) := by decide +kernel
theorem dX2_readVariable_42 : decode cX2_readVariable 42 = .ok (.aload_n 0, 1) := by decide +kernel
theorem dX2_readVariable_43 : decode cX2_readVariable 43 = .ok (.getfield 29, 3) := by decide +kernel
theorem dX2_readVariable_46 : decode cX2_readVariable 46 = .ok (.getfield 87, 3) := by decide +kernel
theorem dX2_readVariable_49 : decode cX2_readVariable 49 = .ok (.iconst 3, 1) := by decide +kernel
theorem dX2_readVariable_50 : decode cX2_readVariable 50 = .ok (.if_icmp .lt 7, 3) := by decide +kernel
theorem dX2_readVariable_53 : decode cX2_readVariable 53 = .ok (.iconst 1, 1) := by decide +kernel
theorem dX2_readVariable_54 : decode cX2_readVariable 54 = .ok (.goto 4, 3) := by decide +kernel
theorem dX2_readVariable_57 : decode cX2_readVariable 57 = .ok (.iconst 0, 1) := by decide +kernel
theorem dX2_readVariable_58 : decode cX2_readVariable 58 = .ok (.istore_n 2, 1) := by decide +kernel
theorem dX2_readVariable_59 : decode cX2_readVariable 59 = .ok (.iload_n 2, 1) := by decide +kernel
theorem dX2_readVariable_60 : decode cX2_readVariable 60 = .ok (.ifCond .ne 18, 3) := by decide +kernel
theorem dX2_readVariable_63 : decode cX2_readVariable 63 = .ok (.aload_n 0, 1) := by decide +kernel
theorem dX2_readVariable_64 : decode cX2_readVariable 64 = .ok (.aload_n 0, 1) := by decide +kernel
theorem dX2_readVariable_65 : decode cX2_readVariable 65 = .ok (.getfield 25, 3) := by decide +kernel
theorem dX2_readVariable_68 : decode cX2_readVariable 68 = .ok (.getfield 90, 3) := by decide +kernel
theorem dX2_readVariable_71 : decode cX2_readVariable 71 = .ok (.invokevirtual 94, 3) := by decide +kernel
theorem dX2_readVariable_74 : decode cX2_readVariable 74 = .ok (.iconst (-1), 1) := by decide +kernel
theorem dX2_readVariable_75 : decode cX2_readVariable 75 = .ok (.if_icmp .eq 12, 3) := by decide +kernel
theorem dX2_readVariable_78 : decode cX2_readVariable 78 = .ok (.aload_n 0, 1) := by decide +kernel
theorem dX2_readVariable_79 : decode cX2_readVariable 79 = .ok (.getfield 25, 3) := by decide +kernel
theorem dX2_readVariable_82 : decode cX2_readVariable 82 = .ok (.iconst 3, 1) := by decide +kernel
theorem dX2_readVariable_83 : decode cX2_readVariable 83 = .ok (.invokevirtual 57, 3) := by decide +kernel
theorem dX2_readVariable_86 : decode cX2_readVariable 86 = .ok (.return_, 1) := by decide +kernel
theorem dX2_readVariable_87 : decode cX2_readVariable 87 = .ok (.iload_n 1, 1) := by decide +kernel
theorem dX2_readVariable_88 : decode cX2_readVariable 88 = .ok (.ifCond .eq 34, 3) := by decide +kernel
theorem dX2_readVariable_91 : decode cX2_readVariable 91 = .ok (.aload_n 0, 1) := by decide +kernel
theorem dX2_readVariable_92 : decode cX2_readVariable 92 = .ok (.getfield 9, 3) := by decide +kernel
theorem dX2_readVariable_95 : decode cX2_readVariable 95 = .ok (.iconst 3, 1) := by decide +kernel
theorem dX2_readVariable_96 : decode cX2_readVariable 96 = .ok (.aload_n 0, 1) := by decide +kernel
theorem dX2_readVariable_97 : decode cX2_readVariable 97 = .ok (.getfield 38, 3) := by decide +kernel
theorem dX2_readVariable_100 : decode cX2_readVariable 100 = .ok (.iadd, 1) := by decide +kernel
theorem dX2_readVariable_101 : decode cX2_readVariable 101 = .ok (.aload_n 0, 1) := by decide +kernel
theorem dX2_readVariable_102 : decode cX2_readVariable 102 = .ok (.getfield 25, 3) := by decide +kernel
theorem dX2_readVariable_105 : decode cX2_readVariable 105 = .ok (.getfield 90, 3) := by decide +kernel
theorem dX2_readVariable_108 : decode cX2_readVariable 108 = .ok (.lastore, 1) := by decide +kernel
theorem dX2_readVariable_109 : decode cX2_readVariable 109 = .ok (.aload_n 0, 1) := by decide +kernel
theorem dX2_readVariable_110 : decode cX2_readVariable 110 = .ok (.dup, 1) := by decide +kernel
theorem dX2_readVariable_111 : decode cX2_readVariable 111 = .ok (.getfield 38, 3) := by decide +kernel
theorem dX2_readVariable_114 : decode cX2_readVariable 114 = .ok (.iconst 1, 1) := by decide +kernel
theorem dX2_readVariable_115 : decode cX2_readVariable 115 = .ok (.iadd, 1) := by decide +kernel
theorem dX2_readVariable_116 : decode cX2_readVariable 116 = .ok (.putfield 38, 3) := by decide +kernel
theorem dX2_readVariable_119 : decode cX2_readVariable 119 = .ok (.goto 35, 3) := by decide +kernel
theorem dX2_readVariable_122 : decode cX2_readVariable 122 = .ok (.aload_n 0, 1) := by decide +kernel
theorem dX2_readVariable_123 : decode cX2_readVariable 123 = .ok (.getfield 9, 3) := by decide +kernel
theorem dX2_readVariable_126 : decode cX2_readVariable 126 = .ok (.aload_n 0, 1) := by decide +kernel
theorem dX2_readVariable_127 : decode cX2_readVariable 127 = .ok (.getfield 29, 3) := by decide +kernel
theorem dX2_readVariable_130 : decode cX2_readVariable 130 = .ok (.getfield 87, 3) := by decide +kernel
theorem dX2_readVariable_133 : decode cX2_readVariable 133 = .ok (.aload_n 0, 1) := by decide +kernel
theorem dX2_readVariable_134 : decode cX2_readVariable 134 = .ok (.getfield 25, 3) := by decide +kernel
theorem dX2_readVariable_137 : decode cX2_readVariable 137 = .ok (.getfield 90, 3) := by decide +kernel
theorem dX2_readVariable_140 : decode cX2_readVariable 140 = .ok (.lastore, 1) := by decide +kernel
theorem dX2_readVariable_141 : decode cX2_readVariable 141 = .ok (.aload_n 0, 1) := by decide +kernel
theorem dX2_readVariable_142 : decode cX2_readVariable 142 = .ok (.getfield 29, 3) := by decide +kernel
theorem dX2_readVariable_145 : decode cX2_readVariable 145 = .ok (.dup, 1) := by decide +kernel
theorem dX2_readVariable_146 : decode cX2_readVariable 146 = .ok (.getfield 87, 3) := by decide +kernel
theorem dX2_readVariable_149 : decode cX2_readVariable 149 = .ok (.iconst 1, 1) := by decide +kernel
theorem dX2_readVariable_150 : decode cX2_readVariable 150 = .ok (.iadd, 1) := by decide +kernel
theorem dX2_readVariable_151 : decode cX2_readVariable 151 = .ok (.putfield 87, 3) := by decide +kernel
theorem dX2_readVariable_154 : decode cX2_readVariable 154 = .ok (.aload_n 0, 1) := by decide +kernel
theorem dX2_readVariable_155 : decode cX2_readVariable 155 = .ok (.getfield 25, 3) := by decide +kernel
theorem dX2_readVariable_158 : decode cX2_readVariable 158 = .ok (.invokevirtual 77, 3) := by decide +kernel
theorem dX2_readVariable_161 : decode cX2_readVariable 161 = .ok (.return_, 1) := by decide +kernel
theorem dX2_readProcedure_0 : decode cX2_readProcedure 0 = .ok (.aload_n 0, 1) := by decide +kernel
theorem dX2_readProcedure_1 : decode cX2_readProcedure 1 = .ok (.getfield 25, 3) := by decide +kernel
theorem dX2_readProcedure_4 : decode cX2_readProcedure 4 = .ok (.sipush 260, 3) := by decide +kernel
theorem dX2_readProcedure_7 : decode cX2_readProcedure 7 = .ok (.invokevirtual 83, 3) := by decide +kernel
theorem dX2_readProcedure_10 : decode cX2_readProcedure 10 = .ok (.ifCond .ne 4, 3) := by decide +kernel
theorem dX2_readProcedure_13 : decode cX2_readProcedure 13 = .ok (.return_, 1) := by decide +kernel
theorem dX2_readProcedure_14 : decode cX2_readProcedure 14 = .ok (.aload_n 0, 1) := by decide +kernel
theorem dX2_readProcedure_15 : decode cX2_readProcedure 15 = .ok (.getfield 25, 3) := by decide +kernel
theorem dX2_readProcedure_18 : decode cX2_readProcedure 18 = .ok (.getfield 47, 3) := by decide +kernel
theorem dX2_readProcedure_21 : decode cX2_readProcedure 21 = .ok (.sipush 258, 3) := by decide +kernel
theorem dX2_readProcedure_24 : decode cX2_readProcedure 24 = .ok (.if_icmp .eq 12, 3) := by decide +kernel
theorem dX2_readProcedure_27 : decode cX2_readProcedure 27 = .ok (.aload_n 0, 1) := by decide +kernel
theorem dX2_readProcedure_28 : decode cX2_readProcedure 28 = .ok (.getfield 25, 3) := by decide +kernel
theorem dX2_readProcedure_31 : decode cX2_readProcedure 31 = .ok (.iconst 2, 1) := by decide +kernel
theorem dX2_readProcedure_32 : decode cX2_readProcedure 32 = .ok (.invokevirtual 57, 3) := by decide +kernel
theorem dX2_readProcedure_35 : decode cX2_readProcedure 35 = .ok (.return_, 1) := by decide +kernel
theorem dX2_readProcedure_36 : decode cX2_readProcedure 36 = .ok (.aload_n 0, 1) := by decide +kernel
theorem dX2_readProcedure_37 : decode cX2_readProcedure 37 = .ok (.getfield 29, 3) := by decide +kernel
theorem dX2_readProcedure_40 : decode cX2_readProcedure 40 = .ok (.getfield 98, 3) := by decide +kernel
theorem dX2_readProcedure_43 : decode cX2_readProcedure 43 = .ok (.istore_n 1, 1) := by decide +kernel
theorem dX2_readProcedure_44 : decode cX2_readProcedure 44 = .ok (.iload_n 1, 1) := by decide +kernel
theorem dX2_readProcedure_45 : decode cX2_readProcedure 45 = .ok (.bipush 6, 2) := by decide +kernel
theorem dX2_readProcedure_47 : decode cX2_readProcedure 47 = .ok (.if_icmp .ge 18, 3) := by decide +kernel
theorem dX2_readProcedure_50 : decode cX2_readProcedure 50 = .ok (.aload_n 0, 1) := by decide +kernel
theorem dX2_readProcedure_51 : decode cX2_readProcedure 51 = .ok (.aload_n 0, 1) := by decide +kernel
theorem dX2_readProcedure_52 : decode cX2_readProcedure 52 = .ok (.getfield 25, 3) := by decide +kernel
theorem dX2_readProcedure_55 : decode cX2_readProcedure 55 = .ok (.getfield 90, 3) := by decide +kernel
theorem dX2_readProcedure_58 : decode cX2_readProcedure 58 = .ok (.invokevirtual 100, 3) := by decide +kernel
theorem dX2_readProcedure_61 : decode cX2_readProcedure 61 = .ok (.iconst (-1), 1) := by decide +kernel
theorem dX2_readProcedure_62 : decode cX2_readProcedure 62 = .ok (.if_icmp .eq 12, 3) := by decide +kernel
theorem dX2_readProcedure_65 : decode cX2_readProcedure 65 = .ok (.aload_n 0, 1) := by decide +kernel
theorem dX2_readProcedure_66 : decode cX2_readProcedure 66 = .ok (.getfield 25, 3) := by decide +kernel
theorem dX2_readProcedure_69 : decode cX2_readProcedure 69 = .ok (.iconst 3, 1) := by decide +kernel
theorem dX2_readProcedure_70 : decode cX2_readProcedure 70 = .ok (.invokevirtual 57, 3) := by decide +kernel
theorem dX2_readProcedure_73 : decode cX2_readProcedure 73 = .ok (.return_, 1) := by decide +kernel
theorem dX2_readProcedure_74 : decode cX2_readProcedure 74 = .ok (.aload_n 0, 1) := by decide +kernel
theorem dX2_readProcedure_75 : decode cX2_readProcedure 75 = .ok (.getfield 15, 3) := by decide +kernel
theorem dX2_readProcedure_78 : decode cX2_readProcedure 78 = .ok (.iload_n 1, 1) := by decide +kernel
theorem dX2_readProcedure_79 : decode cX2_readProcedure 79 = .ok (.aload_n 0, 1) := by decide +kernel
theorem dX2_readProcedure_80 : decode cX2_readProcedure 80 = .ok (.getfield 25, 3) := by decide +kernel
theorem dX2_readProcedure_83 : decode cX2_readProcedure 83 = .ok (.getfield 90, 3) := by decide +kernel
theorem dX2_readProcedure_86 : decode cX2_readProcedure 86 = .ok (.lastore, 1) := by decide +kernel
theorem dX2_readProcedure_87 : decode cX2_readProcedure 87 = .ok (.aload_n 0, 1) := by decide +kernel
theorem dX2_readProcedure_88 : decode cX2_readProcedure 88 = .ok (.getfield 29, 3) := by decide +kernel
theorem dX2_readProcedure_91 : decode cX2_readProcedure 91 = .ok (.dup, 1) := by decide +kernel
theorem dX2_readProcedure_92 : decode cX2_readProcedure 92 = .ok (.getfield 98, 3) := by decide +kernel
theorem dX2_readProcedure_95 : decode cX2_readProcedure 95 = .ok (.iconst 1, 1) := by decide +kernel
theorem dX2_readProcedure_96 : decode cX2_readProcedure 96 = .ok (.iadd, 1) := by decide +kernel
theorem dX2_readProcedure_97 : decode cX2_readProcedure 97 = .ok (.putfield 98, 3) := by decide +kernel
theorem dX2_readProcedure_100 : decode cX2_readProcedure 100 = .ok (.aload_n 0, 1) := by decide +kernel
theorem dX2_readProcedure_101 : decode cX2_readProcedure 101 = .ok (.iconst 0, 1) := by decide +kernel
theorem dX2_readProcedure_102 : decode cX2_readProcedure 102 = .ok (.putfield 38, 3) := by decide +kernel
theorem dX2_readProcedure_105 : decode cX2_readProcedure 105 = .ok (.aload_n 0, 1) := by decide +kernel
theorem dX2_readProcedure_106 : decode cX2_readProcedure 106 = .ok (.getfield 25, 3) := by decide +kernel
theorem dX2_readProcedure_109 : decode cX2_readProcedure 109 = .ok (.invokevirtual 77, 3) := by decide +kernel
theorem dX2_readProcedure_112 : decode cX2_readProcedure 112 = .ok (.aload_n 0, 1) := by decide +kernel
theorem dX2_readProcedure_113 : decode cX2_readProcedure 113 = .ok (.iconst 0, 1) := by decide +kernel
theorem dX2_readProcedure_114 : decode cX2_readProcedure 114 = .ok (.invokevirtual 103, 3) := by decide +kernel
theorem dX2_readProcedure_117 : decode cX2_readProcedure 117 = .ok (.aload_n 0, 1) := by decide +kernel
theorem dX2_readProcedure_118 : decode cX2_readProcedure 118 = .ok (.getfield 25, 3) := by decide +kernel
theorem dX2_readProcedure_121 : decode cX2_readProcedure 121 = .ok (.getfield 47, 3) := by decide +kernel
theorem dX2_readProcedure_124 : decode cX2_readProcedure 124 = .ok (.sipush 259, 3) := by decide +kernel
theorem dX2_readProcedure_127 : decode cX2_readProcedure 127 = .ok (.if_icmp .ne 8, 3) := by decide +kernel
theorem dX2_readProcedure_130 : decode cX2_readProcedure 130 = .ok (.aload_n 0, 1) := by decide +kernel
theorem dX2_readProcedure_131 : decode cX2_readProcedure 131 = .ok (.iconst 1, 1) := by decide +kernel
theorem dX2_readProcedure_132 : decode cX2_readProcedure 132 = .ok (.invokevirtual 50, 3) := by decide +kernel
theorem dX2_readProcedure_135 : decode cX2_readProcedure 135 = .ok (.aload_n 0, 1) := by decide +kernel
theorem dX2_readProcedure_136 : decode cX2_readProcedure 136 = .ok (.iconst (-1), 1) := by decide +kernel
theorem dX2_readProcedure_137 : decode cX2_readProcedure 137 = .ok (.iconst 1, 1) := by decide +kernel
theorem dX2_readProcedure_138 : decode cX2_readProcedure 138 = .ok (.invokevirtual 106, 3) := by decide +kernel
theorem dX2_readProcedure_141 : decode cX2_readProcedure 141 = .ok (.istore_n 2, 1) := by decide +kernel
theorem dX2_readProcedure_142 : decode cX2_readProcedure 142 = .ok (.aload_n 0, 1) := by decide +kernel
theorem dX2_readProcedure_143 : decode cX2_readProcedure 143 = .ok (.getfield 29, 3) := by decide +kernel
theorem dX2_readProcedure_146 : decode cX2_readProcedure 146 = .ok (.getfield 110, 3) := by decide +kernel
theorem dX2_readProcedure_149 : decode cX2_readProcedure 149 = .ok (.iload_n 1, 1) := by decide +kernel
theorem dX2_readProcedure_150 : decode cX2_readProcedure 150 = .ok (.iload_n 2, 1) := by decide +kernel
theorem dX2_readProcedure_151 : decode cX2_readProcedure 151 = .ok (.iconst (-1), 1) := by decide +kernel
theorem dX2_readProcedure_152 : decode cX2_readProcedure 152 = .ok (.if_icmp .ne 7, 3) := by decide +kernel
theorem dX2_readProcedure_155 : decode cX2_readProcedure 155 = .ok (.iconst (-1), 1) := by decide +kernel
theorem dX2_readProcedure_156 : decode cX2_readProcedure 156 = .ok (.goto 4, 3) := by decide +kernel
theorem dX2_readProcedure_159 : decode cX2_readProcedure 159 = .ok (.iload_n 2, 1) := by decide +kernel
theorem dX2_readProcedure_160 : decode cX2_readProcedure 160 = .ok (.iastore, 1) := by decide +kernel
theorem dX2_readProcedure_161 : decode cX2_readProcedure 161 = .ok (.aload_n 0, 1) := by decide +kernel
theorem dX2_readProcedure_162 : decode cX2_readProcedure 162 = .ok (.getfield 25, 3) := by decide +kernel
theorem dX2_readProcedure_165 : decode cX2_readProcedure 165 = .ok (.bipush 125, 2) := by decide +kernel
theorem dX2_readProcedure_167 : decode cX2_readProcedure 167 = .ok (.invokevirtual 83, 3) := by decide +kernel
theorem dX2_readProcedure_170 : decode cX2_readProcedure 170 = .ok (.pop, 1) := by decide +kernel
theorem dX2_readProcedure_171 : decode cX2_readProcedure 171 = .ok (.return_, 1) := by decide +kernel
theorem dX2_readOpenBrace_0 : decode cX2_readOpenBrace 0 = .ok (.aload_n 0, 1) := by decide +kernel
theorem dX2_readOpenBrace_1 : decode cX2_readOpenBrace 1 = .ok (.getfield 25, 3) := by decide +kernel
theorem dX2_readOpenBrace_4 : decode cX2_readOpenBrace 4 = .ok (.getfield 47, 3) := by decide +kernel
theorem dX2_readOpenBrace_7 : decode cX2_readOpenBrace 7 = .ok (.bipush 123, 2) := by decide +kernel
theorem dX2_readOpenBrace_9 : decode cX2_readOpenBrace 9 = .ok (.if_icmp .ne 18, 3) := by decide +kernel
theorem dX2_readOpenBrace_12 : decode cX2_readOpenBrace 12 = .ok (.iload_n 1, 1) := by decide +kernel
theorem dX2_readOpenBrace_13 : decode cX2_readOpenBrace 13 = .ok (.bipush 10, 2) := by decide +kernel
theorem dX2_readOpenBrace_15 : decode cX2_readOpenBrace 15 = .ok (.if_icmp .lt 12, 3) := by decide +kernel
theorem dX2_readOpenBrace_18 : decode cX2_readOpenBrace 18 = .ok (.aload_n 0, 1) := by decide +kernel
theorem dX2_readOpenBrace_19 : decode cX2_readOpenBrace 19 = .ok (.getfield 25, 3) := by decide +kernel
theorem dX2_readOpenBrace_22 : decode cX2_readOpenBrace 22 = .ok (.iconst 3, 1) := by decide +kernel
theorem dX2_readOpenBrace_23 : decode cX2_readOpenBrace 23 = .ok (.invokevirtual 57, 3) := by decide +kernel
theorem dX2_readOpenBrace_26 : decode cX2_readOpenBrace 26 = .ok (.return_, 1) := by decide +kernel
theorem dX2_readOpenBrace_27 : decode cX2_readOpenBrace 27 = .ok (.aload_n 0, 1) := by decide +kernel
theorem dX2_readOpenBrace_28 : decode cX2_readOpenBrace 28 = .ok (.getfield 25, 3) := by decide +kernel
theorem dX2_readOpenBrace_31 : decode cX2_readOpenBrace 31 = .ok (.bipush 123, 2) := by decide +kernel
theorem dX2_readOpenBrace_33 : decode cX2_readOpenBrace 33 = .ok (.invokevirtual 83, 3) := by decide +kernel
theorem dX2_readOpenBrace_36 : decode cX2_readOpenBrace 36 = .ok (.pop, 1) := by decide +kernel
theorem dX2_readOpenBrace_37 : decode cX2_readOpenBrace 37 = .ok (.return_, 1) := by decide +kernel
theorem dX2_readStatements_0 : decode cX2_readStatements 0 = .ok (.iconst (-1), 1) := by decide +kernel
theorem dX2_readStatements_1 : decode cX2_readStatements 1 = .ok (.istore_n 3, 1) := by decide +kernel
theorem dX2_readStatements_2 : decode cX2_readStatements 2 = .ok (.iconst (-1), 1) := by decide +kernel
theorem dX2_readStatements_3 : decode cX2_readStatements 3 = .ok (.istore 4, 2) := by decide +kernel
theorem dX2_readStatements_5 : decode cX2_readStatements 5 = .ok (.iconst 0, 1) := by decide +kernel
theorem dX2_readStatements_6 : decode cX2_readStatements 6 = .ok (.istore 5, 2) := by decide +kernel
theorem dX2_readStatements_8 : decode cX2_readStatements 8 = .ok (.iload 5, 2) := by decide +kernel
theorem dX2_readStatements_10 : decode cX2_readStatements 10 = .ok (.bipush 40, 2) := by decide +kernel
theorem dX2_readStatements_12 : decode cX2_readStatements 12 = .ok (.if_icmp .gt 60, 3) := by decide +kernel
theorem dX2_readStatements_15 : decode cX2_readStatements 15 = .ok (.aload_n 0, 1) := by decide +kernel
theorem dX2_readStatements_16 : decode cX2_readStatements 16 = .ok (.invokevirtual 113, 3) := by decide +kernel
theorem dX2_readStatements_19 : decode cX2_readStatements 19 = .ok (.ifCond .eq 53, 3) := by decide +kernel
theorem dX2_readStatements_22 : decode cX2_readStatements 22 = .ok (.aload_n 0, 1) := by decide +kernel
theorem dX2_readStatements_23 : decode cX2_readStatements 23 = .ok (.iload_n 1, 1) := by decide +kernel
theorem dX2_readStatements_24 : decode cX2_readStatements 24 = .ok (.iload_n 2, 1) := by decide +kernel
theorem dX2_readStatements_25 : decode cX2_readStatements 25 = .ok (.invokevirtual 117, 3) := by decide +kernel
theorem dX2_readStatements_28 : decode cX2_readStatements 28 = .ok (.istore 6, 2) := by decide +kernel
theorem dX2_readStatements_30 : decode cX2_readStatements 30 = .ok (.iload 6, 2) := by decide +kernel
theorem dX2_readStatements_32 : decode cX2_readStatements 32 = .ok (.iconst (-1), 1) := by decide +kernel
theorem dX2_readStatements_33 : decode cX2_readStatements 33 = .ok (.if_icmp .ne 5, 3) := by decide +kernel
theorem dX2_readStatements_36 : decode cX2_readStatements 36 = .ok (.iload_n 3, 1) := by decide +kernel
theorem dX2_readStatements_37 : decode cX2_readStatements 37 = .ok (.ireturn, 1) := by decide +kernel
theorem dX2_readStatements_38 : decode cX2_readStatements 38 = .ok (.iload 4, 2) := by decide +kernel
theorem dX2_readStatements_40 : decode cX2_readStatements 40 = .ok (.iconst (-1), 1) := by decide +kernel
theorem dX2_readStatements_41 : decode cX2_readStatements 41 = .ok (.if_icmp .ne 9, 3) := by decide +kernel
theorem dX2_readStatements_44 : decode cX2_readStatements 44 = .ok (.iload 6, 2) := by decide +kernel
theorem dX2_readStatements_46 : decode cX2_readStatements 46 = .ok (.istore_n 3, 1) := by decide +kernel
theorem dX2_readStatements_47 : decode cX2_readStatements 47 = .ok (.goto 15, 3) := by decide +kernel
theorem dX2_readStatements_50 : decode cX2_readStatements 50 = .ok (.aload_n 0, 1) := by decide +kernel
theorem dX2_readStatements_51 : decode cX2_readStatements 51 = .ok (.getfield 29, 3) := by decide +kernel
theorem dX2_readStatements_54 : decode cX2_readStatements 54 = .ok (.getfield 120, 3) := by decide +kernel
theorem dX2_readStatements_57 : decode cX2_readStatements 57 = .ok (.iload 4, 2) := by decide +kernel
theorem dX2_readStatements_59 : decode cX2_readStatements 59 = .ok (.iload 6, 2) := by decide +kernel
theorem dX2_readStatements_61 : decode cX2_readStatements 61 = .ok (.iastore, 1) := by decide +kernel
theorem dX2_readStatements_62 : decode cX2_readStatements 62 = .ok (.iload 6, 2) := by decide +kernel
theorem dX2_readStatements_64 : decode cX2_readStatements 64 = .ok (.istore 4, 2) := by decide +kernel
theorem dX2_readStatements_66 : decode cX2_readStatements 66 = .ok (.iinc 5 1, 3) := by decide +kernel
theorem dX2_readStatements_69 : decode cX2_readStatements 69 = .ok (.goto (-61), 3) := by decide +kernel
theorem dX2_readStatements_72 : decode cX2_readStatements 72 = .ok (.iload_n 3, 1) := by decide +kernel
theorem dX2_readStatements_73 : decode cX2_readStatements 73 = .ok (.ireturn, 1) := by decide +kernel
theorem dX2_beginsStatement_0 : decode cX2_beginsStatement 0 = .ok (.aload_n 0, 1) := by decide +kernel
theorem dX2_beginsStatement_1 : decode cX2_beginsStatement 1 = .ok (.getfield 25, 3) := by decide +kernel
theorem dX2_beginsStatement_4 : decode cX2_beginsStatement 4 = .ok (.getfield 47, 3) := by decide +kernel
theorem dX2_beginsStatement_7 : decode cX2_beginsStatement 7 = .ok (.sipush 258, 3) := by decide +kernel
theorem dX2_beginsStatement_10 : decode cX2_beginsStatement 10 = .ok (.if_icmp .eq 29, 3) := by decide +kernel
theorem dX2_beginsStatement_13 : decode cX2_beginsStatement 13 = .ok (.aload_n 0, 1) := by decide +kernel
theorem dX2_beginsStatement_14 : decode cX2_beginsStatement 14 = .ok (.getfield 25, 3) := by decide +kernel
theorem dX2_beginsStatement_17 : decode cX2_beginsStatement 17 = .ok (.getfield 47, 3) := by decide +kernel
theorem dX2_beginsStatement_20 : decode cX2_beginsStatement 20 = .ok (.sipush 262, 3) := by decide +kernel
theorem dX2_beginsStatement_23 : decode cX2_beginsStatement 23 = .ok (.if_icmp .lt 20, 3) := by decide +kernel
theorem dX2_beginsStatement_26 : decode cX2_beginsStatement 26 = .ok (.aload_n 0, 1) := by decide +kernel
theorem dX2_beginsStatement_27 : decode cX2_beginsStatement 27 = .ok (.getfield 25, 3) := by decide +kernel
theorem dX2_beginsStatement_30 : decode cX2_beginsStatement 30 = .ok (.getfield 47, 3) := by decide +kernel
theorem dX2_beginsStatement_33 : decode cX2_beginsStatement 33 = .ok (.sipush 268, 3) := by decide +kernel
theorem dX2_beginsStatement_36 : decode cX2_beginsStatement 36 = .ok (.if_icmp .gt 7, 3) := by decide +kernel
theorem dX2_beginsStatement_39 : decode cX2_beginsStatement 39 = .ok (.iconst 1, 1) := by decide +kernel
theorem dX2_beginsStatement_40 : decode cX2_beginsStatement 40 = .ok (.goto 4, 3) := by decide +kernel
theorem dX2_beginsStatement_43 : decode cX2_beginsStatement 43 = .ok (.iconst 0, 1) := by decide +kernel
theorem dX2_beginsStatement_44 : decode cX2_beginsStatement 44 = .ok (.ireturn, 1) := by decide +kernel
theorem dX2_readStatement_0 : decode cX2_readStatement 0 = .ok (.aload_n 0, 1) := by decide +kernel
theorem dX2_readStatement_1 : decode cX2_readStatement 1 = .ok (.getfield 25, 3) := by decide +kernel
theorem dX2_readStatement_4 : decode cX2_readStatement 4 = .ok (.getfield 47, 3) := by decide +kernel
theorem dX2_readStatement_7 : decode cX2_readStatement 7 = .ok (.sipush 258, 3) := by decide +kernel
theorem dX2_readStatement_10 : decode cX2_readStatement 10 = .ok (.if_icmp .ne 7, 3) := by decide +kernel
theorem dX2_readStatement_13 : decode cX2_readStatement 13 = .ok (.iconst 0, 1) := by decide +kernel
theorem dX2_readStatement_14 : decode cX2_readStatement 14 = .ok (.goto 16, 3) := by decide +kernel
theorem dX2_readStatement_17 : decode cX2_readStatement 17 = .ok (.iconst 1, 1) := by decide +kernel
theorem dX2_readStatement_18 : decode cX2_readStatement 18 = .ok (.aload_n 0, 1) := by decide +kernel
theorem dX2_readStatement_19 : decode cX2_readStatement 19 = .ok (.getfield 25, 3) := by decide +kernel
theorem dX2_readStatement_22 : decode cX2_readStatement 22 = .ok (.getfield 47, 3) := by decide +kernel
theorem dX2_readStatement_25 : decode cX2_readStatement 25 = .ok (.iadd, 1) := by decide +kernel
theorem dX2_readStatement_26 : decode cX2_readStatement 26 = .ok (.sipush 262, 3) := by decide +kernel
theorem dX2_readStatement_29 : decode cX2_readStatement 29 = .ok (.isub, 1) := by decide +kernel
theorem dX2_readStatement_30 : decode cX2_readStatement 30 = .ok (.istore_n 3, 1) := by decide +kernel
theorem dX2_readStatement_31 : decode cX2_readStatement 31 = .ok (.aload_n 0, 1) := by decide +kernel
theorem dX2_readStatement_32 : decode cX2_readStatement 32 = .ok (.getfield 29, 3) := by decide +kernel
theorem dX2_readStatement_35 : decode cX2_readStatement 35 = .ok (.iload_n 3, 1) := by decide +kernel
theorem dX2_readStatement_36 : decode cX2_readStatement 36 = .ok (.aload_n 0, 1) := by decide +kernel
theorem dX2_readStatement_37 : decode cX2_readStatement 37 = .ok (.getfield 25, 3) := by decide +kernel
theorem dX2_readStatement_40 : decode cX2_readStatement 40 = .ok (.getfield 123, 3) := by decide +kernel
theorem dX2_readStatement_43 : decode cX2_readStatement 43 = .ok (.iload_n 1, 1) := by decide +kernel
theorem dX2_readStatement_44 : decode cX2_readStatement 44 = .ok (.invokevirtual 126, 3) := by decide +kernel
theorem dX2_readStatement_47 : decode cX2_readStatement 47 = .ok (.istore 4, 2) := by decide +kernel
theorem dX2_readStatement_49 : decode cX2_readStatement 49 = .ok (.iload 4, 2) := by decide +kernel
theorem dX2_readStatement_51 : decode cX2_readStatement 51 = .ok (.iconst (-1), 1) := by decide +kernel
theorem dX2_readStatement_52 : decode cX2_readStatement 52 = .ok (.if_icmp .ne 13, 3) := by decide +kernel
theorem dX2_readStatement_55 : decode cX2_readStatement 55 = .ok (.aload_n 0, 1) := by decide +kernel
theorem dX2_readStatement_56 : decode cX2_readStatement 56 = .ok (.getfield 25, 3) := by decide +kernel
theorem dX2_readStatement_59 : decode cX2_readStatement 59 = .ok (.iconst 3, 1) := by decide +kernel
theorem dX2_readStatement_60 : decode cX2_readStatement 60 = .ok (.invokevirtual 57, 3) := by decide +kernel
theorem dX2_readStatement_63 : decode cX2_readStatement 63 = .ok (.iconst (-1), 1) := by decide +kernel
theorem dX2_readStatement_64 : decode cX2_readStatement 64 = .ok (.ireturn, 1) := by decide +kernel
theorem dX2_readStatement_65 : decode cX2_readStatement 65 = .ok (.iload_n 3, 1) := by decide +kernel
theorem dX2_readStatement_66 : decode cX2_readStatement 66 = .ok (.iconst 1, 1) := by decide +kernel
theorem dX2_readStatement_67 : decode cX2_readStatement 67 = .ok (.if_icmp .eq 8, 3) := by decide +kernel
theorem dX2_readStatement_70 : decode cX2_readStatement 70 = .ok (.iload_n 3, 1) := by decide +kernel
theorem dX2_readStatement_71 : decode cX2_readStatement 71 = .ok (.iconst 2, 1) := by decide +kernel
theorem dX2_readStatement_72 : decode cX2_readStatement 72 = .ok (.if_icmp .ne 13, 3) := by decide +kernel
theorem dX2_readStatement_75 : decode cX2_readStatement 75 = .ok (.aload_n 0, 1) := by decide +kernel
theorem dX2_readStatement_76 : decode cX2_readStatement 76 = .ok (.iload 4, 2) := by decide +kernel
theorem dX2_readStatement_78 : decode cX2_readStatement 78 = .ok (.iload_n 2, 1) := by decide +kernel
theorem dX2_readStatement_79 : decode cX2_readStatement 79 = .ok (.invokevirtual 130, 3) := by decide +kernel
theorem dX2_readStatement_82 : decode cX2_readStatement 82 = .ok (.iload 4, 2) := by decide +kernel
theorem dX2_readStatement_84 : decode cX2_readStatement 84 = .ok (.ireturn, 1) := by decide +kernel
theorem dX2_readStatement_85 : decode cX2_readStatement 85 = .ok (.iload_n 3, 1) := by decide +kernel
theorem dX2_readStatement_86 : decode cX2_readStatement 86 = .ok (.ifCond .ne 12, 3) := by decide +kernel
theorem dX2_readStatement_89 : decode cX2_readStatement 89 = .ok (.aload_n 0, 1) := by decide +kernel
theorem dX2_readStatement_90 : decode cX2_readStatement 90 = .ok (.iload 4, 2) := by decide +kernel
theorem dX2_readStatement_92 : decode cX2_readStatement 92 = .ok (.invokevirtual 134, 3) := by decide +kernel
theorem dX2_readStatement_95 : decode cX2_readStatement 95 = .ok (.goto 49, 3) := by decide +kernel
theorem dX2_readStatement_98 : decode cX2_readStatement 98 = .ok (.aload_n 0, 1) := by decide +kernel
theorem dX2_readStatement_99 : decode cX2_readStatement 99 = .ok (.getfield 25, 3) := by decide +kernel
theorem dX2_readStatement_102 : decode cX2_readStatement 102 = .ok (.invokevirtual 77, 3) := by decide +kernel
theorem dX2_readStatement_105 : decode cX2_readStatement 105 = .ok (.iload_n 3, 1) := by decide +kernel
theorem dX2_readStatement_106 : decode cX2_readStatement 106 = .ok (.iconst 3, 1) := by decide +kernel
theorem dX2_readStatement_107 : decode cX2_readStatement 107 = .ok (.if_icmp .ne 12, 3) := by decide +kernel
theorem dX2_readStatement_110 : decode cX2_readStatement 110 = .ok (.aload_n 0, 1) := by decide +kernel
theorem dX2_readStatement_111 : decode cX2_readStatement 111 = .ok (.iload 4, 2) := by decide +kernel
theorem dX2_readStatement_113 : decode cX2_readStatement 113 = .ok (.invokevirtual 137, 3) := by decide +kernel
theorem dX2_readStatement_116 : decode cX2_readStatement 116 = .ok (.goto 28, 3) := by decide +kernel
theorem dX2_readStatement_119 : decode cX2_readStatement 119 = .ok (.iload_n 3, 1) := by decide +kernel
theorem dX2_readStatement_120 : decode cX2_readStatement 120 = .ok (.iconst 4, 1) := by decide +kernel
theorem dX2_readStatement_121 : decode cX2_readStatement 121 = .ok (.if_icmp .eq 8, 3) := by decide +kernel
theorem dX2_readStatement_124 : decode cX2_readStatement 124 = .ok (.iload_n 3, 1) := by decide +kernel
theorem dX2_readStatement_125 : decode cX2_readStatement 125 = .ok (.iconst 5, 1) := by decide +kernel
theorem dX2_readStatement_126 : decode cX2_readStatement 126 = .ok (.if_icmp .ne 18, 3) := by decide +kernel
theorem dX2_readStatement_129 : decode cX2_readStatement 129 = .ok (.aload_n 0, 1) := by decide +kernel
theorem dX2_readStatement_130 : decode cX2_readStatement 130 = .ok (.getfield 29, 3) := by decide +kernel
theorem dX2_readStatement_133 : decode cX2_readStatement 133 = .ok (.getfield 140, 3) := by decide +kernel
theorem dX2_readStatement_136 : decode cX2_readStatement 136 = .ok (.iload 4, 2) := by decide +kernel
theorem dX2_readStatement_138 : decode cX2_readStatement 138 = .ok (.aload_n 0, 1) := by decide +kernel
theorem dX2_readStatement_139 : decode cX2_readStatement 139 = .ok (.iconst 0, 1) := by decide +kernel
theorem dX2_readStatement_140 : decode cX2_readStatement 140 = .ok (.invokevirtual 143, 3) := by decide +kernel
theorem dX2_readStatement_143 : decode cX2_readStatement 143 = .ok (.lastore, 1) := by decide +kernel
theorem dX2_readStatement_144 : decode cX2_readStatement 144 = .ok (.aload_n 0, 1) := by decide +kernel
theorem dX2_readStatement_145 : decode cX2_readStatement 145 = .ok (.getfield 25, 3) := by decide +kernel
theorem dX2_readStatement_148 : decode cX2_readStatement 148 = .ok (.bipush 59, 2) := by decide +kernel
theorem dX2_readStatement_150 : decode cX2_readStatement 150 = .ok (.invokevirtual 83, 3) := by decide +kernel
theorem dX2_readStatement_153 : decode cX2_readStatement 153 = .ok (.pop, 1) := by decide +kernel
theorem dX2_readStatement_154 : decode cX2_readStatement 154 = .ok (.iload 4, 2) := by decide +kernel
theorem dX2_readStatement_156 : decode cX2_readStatement 156 = .ok (.ireturn, 1) := by decide +kernel
theorem dX2_readBranch_0 : decode cX2_readBranch 0 = .ok (.aload_n 0, 1) := by decide +kernel
theorem dX2_readBranch_1 : decode cX2_readBranch 1 = .ok (.getfield 25, 3) := by decide +kernel
theorem dX2_readBranch_4 : decode cX2_readBranch 4 = .ok (.invokevirtual 77, 3) := by decide +kernel
theorem dX2_readBranch_7 : decode cX2_readBranch 7 = .ok (.aload_n 0, 1) := by decide +kernel
theorem dX2_readBranch_8 : decode cX2_readBranch 8 = .ok (.getfield 29, 3) := by decide +kernel
theorem dX2_readBranch_11 : decode cX2_readBranch 11 = .ok (.getfield 140, 3) := by decide +kernel
theorem dX2_readBranch_14 : decode cX2_readBranch 14 = .ok (.iload_n 1, 1) := by decide +kernel
theorem dX2_readBranch_15 : decode cX2_readBranch 15 = .ok (.aload_n 0, 1) := by decide +kernel
theorem dX2_readBranch_16 : decode cX2_readBranch 16 = .ok (.iconst 0, 1) := by decide +kernel
theorem dX2_readBranch_17 : decode cX2_readBranch 17 = .ok (.invokevirtual 143, 3) := by decide +kernel
theorem dX2_readBranch_20 : decode cX2_readBranch 20 = .ok (.lastore, 1) := by decide +kernel
theorem dX2_readBranch_21 : decode cX2_readBranch 21 = .ok (.aload_n 0, 1) := by decide +kernel
theorem dX2_readBranch_22 : decode cX2_readBranch 22 = .ok (.getfield 29, 3) := by decide +kernel
theorem dX2_readBranch_25 : decode cX2_readBranch 25 = .ok (.getfield 147, 3) := by decide +kernel
theorem dX2_readBranch_28 : decode cX2_readBranch 28 = .ok (.iload_n 1, 1) := by decide +kernel
theorem dX2_readBranch_29 : decode cX2_readBranch 29 = .ok (.aload_n 0, 1) := by decide +kernel
theorem dX2_readBranch_30 : decode cX2_readBranch 30 = .ok (.iload_n 1, 1) := by decide +kernel
theorem dX2_readBranch_31 : decode cX2_readBranch 31 = .ok (.iload_n 2, 1) := by decide +kernel
theorem dX2_readBranch_32 : decode cX2_readBranch 32 = .ok (.invokevirtual 150, 3) := by decide +kernel
theorem dX2_readBranch_35 : decode cX2_readBranch 35 = .ok (.iastore, 1) := by decide +kernel
theorem dX2_readBranch_36 : decode cX2_readBranch 36 = .ok (.aload_n 0, 1) := by decide +kernel
theorem dX2_readBranch_37 : decode cX2_readBranch 37 = .ok (.getfield 29, 3) := by decide +kernel
theorem dX2_readBranch_40 : decode cX2_readBranch 40 = .ok (.getfield 153, 3) := by decide +kernel
theorem dX2_readBranch_43 : decode cX2_readBranch 43 = .ok (.iload_n 1, 1) := by decide +kernel
theorem dX2_readBranch_44 : decode cX2_readBranch 44 = .ok (.iaload, 1) := by decide +kernel
theorem dX2_readBranch_45 : decode cX2_readBranch 45 = .ok (.iconst 1, 1) := by decide +kernel
theorem dX2_readBranch_46 : decode cX2_readBranch 46 = .ok (.if_icmp .ne 38, 3) := by decide +kernel
theorem dX2_readBranch_49 : decode cX2_readBranch 49 = .ok (.aload_n 0, 1) := by decide +kernel
theorem dX2_readBranch_50 : decode cX2_readBranch 50 = .ok (.getfield 25, 3) := by decide +kernel
theorem dX2_readBranch_53 : decode cX2_readBranch 53 = .ok (.getfield 47, 3) := by decide +kernel
theorem dX2_readBranch_56 : decode cX2_readBranch 56 = .ok (.sipush 261, 3) := by decide +kernel
theorem dX2_readBranch_59 : decode cX2_readBranch 59 = .ok (.if_icmp .ne 25, 3) := by decide +kernel
theorem dX2_readBranch_62 : decode cX2_readBranch 62 = .ok (.aload_n 0, 1) := by decide +kernel
theorem dX2_readBranch_63 : decode cX2_readBranch 63 = .ok (.getfield 25, 3) := by decide +kernel
theorem dX2_readBranch_66 : decode cX2_readBranch 66 = .ok (.invokevirtual 77, 3) := by decide +kernel
theorem dX2_readBranch_69 : decode cX2_readBranch 69 = .ok (.aload_n 0, 1) := by decide +kernel
theorem dX2_readBranch_70 : decode cX2_readBranch 70 = .ok (.getfield 29, 3) := by decide +kernel
theorem dX2_readBranch_73 : decode cX2_readBranch 73 = .ok (.getfield 156, 3) := by decide +kernel
theorem dX2_readBranch_76 : decode cX2_readBranch 76 = .ok (.iload_n 1, 1) := by decide +kernel
theorem dX2_readBranch_77 : decode cX2_readBranch 77 = .ok (.aload_n 0, 1) := by decide +kernel
theorem dX2_readBranch_78 : decode cX2_readBranch 78 = .ok (.iload_n 1, 1) := by decide +kernel
theorem dX2_readBranch_79 : decode cX2_readBranch 79 = .ok (.iload_n 2, 1) := by decide +kernel
theorem dX2_readBranch_80 : decode cX2_readBranch 80 = .ok (.invokevirtual 150, 3) := by decide +kernel
theorem dX2_readBranch_83 : decode cX2_readBranch 83 = .ok (.iastore, 1) := by decide +kernel
theorem dX2_readBranch_84 : decode cX2_readBranch 84 = .ok (.return_, 1) := by decide +kernel
theorem dX2_readBlock_0 : decode cX2_readBlock 0 = .ok (.aload_n 0, 1) := by decide +kernel
theorem dX2_readBlock_1 : decode cX2_readBlock 1 = .ok (.iload_n 2, 1) := by decide +kernel
theorem dX2_readBlock_2 : decode cX2_readBlock 2 = .ok (.invokevirtual 103, 3) := by decide +kernel
theorem dX2_readBlock_5 : decode cX2_readBlock 5 = .ok (.iload_n 2, 1) := by decide +kernel
theorem dX2_readBlock_6 : decode cX2_readBlock 6 = .ok (.bipush 10, 2) := by decide +kernel
theorem dX2_readBlock_8 : decode cX2_readBlock 8 = .ok (.if_icmp .lt 5, 3) := by decide +kernel
theorem dX2_readBlock_11 : decode cX2_readBlock 11 = .ok (.iconst (-1), 1) := by decide +kernel
theorem dX2_readBlock_12 : decode cX2_readBlock 12 = .ok (.ireturn, 1) := by decide +kernel
theorem dX2_readBlock_13 : decode cX2_readBlock 13 = .ok (.aload_n 0, 1) := by decide +kernel
theorem dX2_readBlock_14 : decode cX2_readBlock 14 = .ok (.iload_n 1, 1) := by decide +kernel
theorem dX2_readBlock_15 : decode cX2_readBlock 15 = .ok (.iload_n 2, 1) := by decide +kernel
theorem dX2_readBlock_16 : decode cX2_readBlock 16 = .ok (.iconst 1, 1) := by decide +kernel
theorem dX2_readBlock_17 : decode cX2_readBlock 17 = .ok (.iadd, 1) := by decide +kernel
theorem dX2_readBlock_18 : decode cX2_readBlock 18 = .ok (.invokevirtual 106, 3) := by decide +kernel
theorem dX2_readBlock_21 : decode cX2_readBlock 21 = .ok (.istore_n 3, 1) := by decide +kernel
theorem dX2_readBlock_22 : decode cX2_readBlock 22 = .ok (.aload_n 0, 1) := by decide +kernel
theorem dX2_readBlock_23 : decode cX2_readBlock 23 = .ok (.getfield 25, 3) := by decide +kernel
theorem dX2_readBlock_26 : decode cX2_readBlock 26 = .ok (.bipush 125, 2) := by decide +kernel
theorem dX2_readBlock_28 : decode cX2_readBlock 28 = .ok (.invokevirtual 83, 3) := by decide +kernel
theorem dX2_readBlock_31 : decode cX2_readBlock 31 = .ok (.pop, 1) := by decide +kernel
theorem dX2_readBlock_32 : decode cX2_readBlock 32 = .ok (.iload_n 3, 1) := by decide +kernel
theorem dX2_readBlock_33 : decode cX2_readBlock 33 = .ok (.ireturn, 1) := by decide +kernel
theorem dX2_readAssignment_0 : decode cX2_readAssignment 0 = .ok (.aload_n 0, 1) := by decide +kernel
theorem dX2_readAssignment_1 : decode cX2_readAssignment 1 = .ok (.aload_n 0, 1) := by decide +kernel
theorem dX2_readAssignment_2 : decode cX2_readAssignment 2 = .ok (.getfield 25, 3) := by decide +kernel
theorem dX2_readAssignment_5 : decode cX2_readAssignment 5 = .ok (.getfield 90, 3) := by decide +kernel
theorem dX2_readAssignment_8 : decode cX2_readAssignment 8 = .ok (.invokevirtual 94, 3) := by decide +kernel
theorem dX2_readAssignment_11 : decode cX2_readAssignment 11 = .ok (.istore_n 2, 1) := by decide +kernel
theorem dX2_readAssignment_12 : decode cX2_readAssignment 12 = .ok (.iload_n 2, 1) := by decide +kernel
theorem dX2_readAssignment_13 : decode cX2_readAssignment 13 = .ok (.iconst (-1), 1) := by decide +kernel
theorem dX2_readAssignment_14 : decode cX2_readAssignment 14 = .ok (.if_icmp .ne 12, 3) := by decide +kernel
theorem dX2_readAssignment_17 : decode cX2_readAssignment 17 = .ok (.aload_n 0, 1) := by decide +kernel
theorem dX2_readAssignment_18 : decode cX2_readAssignment 18 = .ok (.getfield 25, 3) := by decide +kernel
theorem dX2_readAssignment_21 : decode cX2_readAssignment 21 = .ok (.iconst 3, 1) := by decide +kernel
theorem dX2_readAssignment_22 : decode cX2_readAssignment 22 = .ok (.invokevirtual 57, 3) := by decide +kernel
theorem dX2_readAssignment_25 : decode cX2_readAssignment 25 = .ok (.return_, 1) := by decide +kernel
theorem dX2_readAssignment_26 : decode cX2_readAssignment 26 = .ok (.aload_n 0, 1) := by decide +kernel
theorem dX2_readAssignment_27 : decode cX2_readAssignment 27 = .ok (.getfield 29, 3) := by decide +kernel
theorem dX2_readAssignment_30 : decode cX2_readAssignment 30 = .ok (.getfield 159, 3) := by decide +kernel
theorem dX2_readAssignment_33 : decode cX2_readAssignment 33 = .ok (.iload_n 1, 1) := by decide +kernel
theorem dX2_readAssignment_34 : decode cX2_readAssignment 34 = .ok (.iload_n 2, 1) := by decide +kernel
theorem dX2_readAssignment_35 : decode cX2_readAssignment 35 = .ok (.iastore, 1) := by decide +kernel
theorem dX2_readAssignment_36 : decode cX2_readAssignment 36 = .ok (.aload_n 0, 1) := by decide +kernel
theorem dX2_readAssignment_37 : decode cX2_readAssignment 37 = .ok (.getfield 25, 3) := by decide +kernel
theorem dX2_readAssignment_40 : decode cX2_readAssignment 40 = .ok (.invokevirtual 77, 3) := by decide +kernel
theorem dX2_readAssignment_43 : decode cX2_readAssignment 43 = .ok (.aload_n 0, 1) := by decide +kernel
theorem dX2_readAssignment_44 : decode cX2_readAssignment 44 = .ok (.getfield 25, 3) := by decide +kernel
theorem dX2_readAssignment_47 : decode cX2_readAssignment 47 = .ok (.bipush 61, 2) := by decide +kernel
theorem dX2_readAssignment_49 : decode cX2_readAssignment 49 = .ok (.invokevirtual 83, 3) := by decide +kernel
theorem dX2_readAssignment_52 : decode cX2_readAssignment 52 = .ok (.ifCond .eq 17, 3) := by decide +kernel
theorem dX2_readAssignment_55 : decode cX2_readAssignment 55 = .ok (.aload_n 0, 1) := by decide +kernel
theorem dX2_readAssignment_56 : decode cX2_readAssignment 56 = .ok (.getfield 29, 3) := by decide +kernel
theorem dX2_readAssignment_59 : decode cX2_readAssignment 59 = .ok (.getfield 140, 3) := by decide +kernel
theorem dX2_readAssignment_62 : decode cX2_readAssignment 62 = .ok (.iload_n 1, 1) := by decide +kernel
theorem dX2_readAssignment_63 : decode cX2_readAssignment 63 = .ok (.aload_n 0, 1) := by decide +kernel
theorem dX2_readAssignment_64 : decode cX2_readAssignment 64 = .ok (.iconst 0, 1) := by decide +kernel
theorem dX2_readAssignment_65 : decode cX2_readAssignment 65 = .ok (.invokevirtual 143, 3) := by decide +kernel
theorem dX2_readAssignment_68 : decode cX2_readAssignment 68 = .ok (.lastore, 1) := by decide +kernel
theorem dX2_readAssignment_69 : decode cX2_readAssignment 69 = .ok (.return_, 1) := by decide +kernel
theorem dX2_readCalled_0 : decode cX2_readCalled 0 = .ok (.aload_n 0, 1) := by decide +kernel
theorem dX2_readCalled_1 : decode cX2_readCalled 1 = .ok (.getfield 18, 3) := by decide +kernel
theorem dX2_readCalled_4 : decode cX2_readCalled 4 = .ok (.iload_n 1, 1) := by decide +kernel
theorem dX2_readCalled_5 : decode cX2_readCalled 5 = .ok (.aload_n 0, 1) := by decide +kernel
theorem dX2_readCalled_6 : decode cX2_readCalled 6 = .ok (.getfield 25, 3) := by decide +kernel
theorem dX2_readCalled_9 : decode cX2_readCalled 9 = .ok (.getfield 90, 3) := by decide +kernel
theorem dX2_readCalled_12 : decode cX2_readCalled 12 = .ok (.lastore, 1) := by decide +kernel
theorem dX2_readCalled_13 : decode cX2_readCalled 13 = .ok (.aload_n 0, 1) := by decide +kernel
theorem dX2_readCalled_14 : decode cX2_readCalled 14 = .ok (.getfield 21, 3) := by decide +kernel
theorem dX2_readCalled_17 : decode cX2_readCalled 17 = .ok (.iload_n 1, 1) := by decide +kernel
theorem dX2_readCalled_18 : decode cX2_readCalled 18 = .ok (.aload_n 0, 1) := by decide +kernel
theorem dX2_readCalled_19 : decode cX2_readCalled 19 = .ok (.getfield 25, 3) := by decide +kernel
theorem dX2_readCalled_22 : decode cX2_readCalled 22 = .ok (.getfield 123, 3) := by decide +kernel
theorem dX2_readCalled_25 : decode cX2_readCalled 25 = .ok (.iastore, 1) := by decide +kernel
theorem dX2_readCalled_26 : decode cX2_readCalled 26 = .ok (.aload_n 0, 1) := by decide +kernel
theorem dX2_readCalled_27 : decode cX2_readCalled 27 = .ok (.getfield 25, 3) := by decide +kernel
theorem dX2_readCalled_30 : decode cX2_readCalled 30 = .ok (.sipush 258, 3) := by decide +kernel
theorem dX2_readCalled_33 : decode cX2_readCalled 33 = .ok (.invokevirtual 83, 3) := by decide +kernel
theorem dX2_readCalled_36 : decode cX2_readCalled 36 = .ok (.pop, 1) := by decide +kernel
theorem dX2_readCalled_37 : decode cX2_readCalled 37 = .ok (.return_, 1) := by decide +kernel
theorem dX2_findCalled_0 : decode cX2_findCalled 0 = .ok (.iconst 0, 1) := by decide +kernel
theorem dX2_findCalled_1 : decode cX2_findCalled 1 = .ok (.istore_n 1, 1) := by decide +kernel
theorem dX2_findCalled_2 : decode cX2_findCalled 2 = .ok (.iload_n 1, 1) := by decide +kernel
theorem dX2_findCalled_3 : decode cX2_findCalled 3 = .ok (.aload_n 0, 1) := by decide +kernel
theorem dX2_findCalled_4 : decode cX2_findCalled 4 = .ok (.getfield 29, 3) := by decide +kernel
theorem dX2_findCalled_7 : decode cX2_findCalled 7 = .ok (.getfield 162, 3) := by decide +kernel
theorem dX2_findCalled_10 : decode cX2_findCalled 10 = .ok (.if_icmp .ge 78, 3) := by decide +kernel
theorem dX2_findCalled_13 : decode cX2_findCalled 13 = .ok (.aload_n 0, 1) := by decide +kernel
theorem dX2_findCalled_14 : decode cX2_findCalled 14 = .ok (.getfield 25, 3) := by decide +kernel
theorem dX2_findCalled_17 : decode cX2_findCalled 17 = .ok (.getfield 67, 3) := by decide +kernel
theorem dX2_findCalled_20 : decode cX2_findCalled 20 = .ok (.ifCond .ne 68, 3) := by decide +kernel
theorem dX2_findCalled_23 : decode cX2_findCalled 23 = .ok (.aload_n 0, 1) := by decide +kernel
theorem dX2_findCalled_24 : decode cX2_findCalled 24 = .ok (.getfield 29, 3) := by decide +kernel
theorem dX2_findCalled_27 : decode cX2_findCalled 27 = .ok (.getfield 153, 3) := by decide +kernel
theorem dX2_findCalled_30 : decode cX2_findCalled 30 = .ok (.iload_n 1, 1) := by decide +kernel
theorem dX2_findCalled_31 : decode cX2_findCalled 31 = .ok (.iaload, 1) := by decide +kernel
theorem dX2_findCalled_32 : decode cX2_findCalled 32 = .ok (.iconst 3, 1) := by decide +kernel
theorem dX2_findCalled_33 : decode cX2_findCalled 33 = .ok (.if_icmp .ne 49, 3) := by decide +kernel
theorem dX2_findCalled_36 : decode cX2_findCalled 36 = .ok (.aload_n 0, 1) := by decide +kernel
theorem dX2_findCalled_37 : decode cX2_findCalled 37 = .ok (.getfield 29, 3) := by decide +kernel
theorem dX2_findCalled_40 : decode cX2_findCalled 40 = .ok (.getfield 165, 3) := by decide +kernel
theorem dX2_findCalled_43 : decode cX2_findCalled 43 = .ok (.iload_n 1, 1) := by decide +kernel
theorem dX2_findCalled_44 : decode cX2_findCalled 44 = .ok (.aload_n 0, 1) := by decide +kernel
theorem dX2_findCalled_45 : decode cX2_findCalled 45 = .ok (.aload_n 0, 1) := by decide +kernel
theorem dX2_findCalled_46 : decode cX2_findCalled 46 = .ok (.getfield 18, 3) := by decide +kernel
theorem dX2_findCalled_49 : decode cX2_findCalled 49 = .ok (.iload_n 1, 1) := by decide +kernel
theorem dX2_findCalled_50 : decode cX2_findCalled 50 = .ok (.laload, 1) := by decide +kernel
theorem dX2_findCalled_51 : decode cX2_findCalled 51 = .ok (.invokevirtual 100, 3) := by decide +kernel
theorem dX2_findCalled_54 : decode cX2_findCalled 54 = .ok (.iastore, 1) := by decide +kernel
theorem dX2_findCalled_55 : decode cX2_findCalled 55 = .ok (.aload_n 0, 1) := by decide +kernel
theorem dX2_findCalled_56 : decode cX2_findCalled 56 = .ok (.getfield 29, 3) := by decide +kernel
theorem dX2_findCalled_59 : decode cX2_findCalled 59 = .ok (.getfield 165, 3) := by decide +kernel
theorem dX2_findCalled_62 : decode cX2_findCalled 62 = .ok (.iload_n 1, 1) := by decide +kernel
theorem dX2_findCalled_63 : decode cX2_findCalled 63 = .ok (.iaload, 1) := by decide +kernel
theorem dX2_findCalled_64 : decode cX2_findCalled 64 = .ok (.iconst (-1), 1) := by decide +kernel
theorem dX2_findCalled_65 : decode cX2_findCalled 65 = .ok (.if_icmp .ne 17, 3) := by decide +kernel
theorem dX2_findCalled_68 : decode cX2_findCalled 68 = .ok (.aload_n 0, 1) := by decide +kernel
theorem dX2_findCalled_69 : decode cX2_findCalled 69 = .ok (.getfield 25, 3) := by decide +kernel
theorem dX2_findCalled_72 : decode cX2_findCalled 72 = .ok (.iconst 4, 1) := by decide +kernel
theorem dX2_findCalled_73 : decode cX2_findCalled 73 = .ok (.aload_n 0, 1) := by decide +kernel
theorem dX2_findCalled_74 : decode cX2_findCalled 74 = .ok (.getfield 21, 3) := by decide +kernel
theorem dX2_findCalled_77 : decode cX2_findCalled 77 = .ok (.iload_n 1, 1) := by decide +kernel
theorem dX2_findCalled_78 : decode cX2_findCalled 78 = .ok (.iaload, 1) := by decide +kernel
theorem dX2_findCalled_79 : decode cX2_findCalled 79 = .ok (.invokevirtual 168, 3) := by decide +kernel
theorem dX2_findCalled_82 : decode cX2_findCalled 82 = .ok (.iinc 1 1, 3) := by decide +kernel
theorem dX2_findCalled_85 : decode cX2_findCalled 85 = .ok (.goto (-83), 3) := by decide +kernel
theorem dX2_findCalled_88 : decode cX2_findCalled 88 = .ok (.return_, 1) := by decide +kernel
theorem dX2_readExpression_0 : decode cX2_readExpression 0 = .ok (.aload_n 0, 1) := by decide +kernel
theorem dX2_readExpression_1 : decode cX2_readExpression 1 = .ok (.iload_n 1, 1) := by decide +kernel
theorem dX2_readExpression_2 : decode cX2_readExpression 2 = .ok (.invokevirtual 171, 3) := by decide +kernel
theorem dX2_readExpression_5 : decode cX2_readExpression 5 = .ok (.lstore_n 2, 1) := by decide +kernel
theorem dX2_readExpression_6 : decode cX2_readExpression 6 = .ok (.iconst 0, 1) := by decide +kernel
theorem dX2_readExpression_7 : decode cX2_readExpression 7 = .ok (.istore 4, 2) := by decide +kernel
theorem dX2_readExpression_9 : decode cX2_readExpression 9 = .ok (.iload 4, 2) := by decide +kernel
theorem dX2_readExpression_11 : decode cX2_readExpression 11 = .ok (.sipush 600, 3) := by decide +kernel
theorem dX2_readExpression_14 : decode cX2_readExpression 14 = .ok (.if_icmp .ge 53, 3) := by decide +kernel
theorem dX2_readExpression_17 : decode cX2_readExpression 17 = .ok (.aload_n 0, 1) := by decide +kernel
theorem dX2_readExpression_18 : decode cX2_readExpression 18 = .ok (.getfield 25, 3) := by decide +kernel
theorem dX2_readExpression_21 : decode cX2_readExpression 21 = .ok (.getfield 47, 3) := by decide +kernel
theorem dX2_readExpression_24 : decode cX2_readExpression 24 = .ok (.bipush 124, 2) := by decide +kernel
theorem dX2_readExpression_26 : decode cX2_readExpression 26 = .ok (.if_icmp .ne 41, 3) := by decide +kernel
theorem dX2_readExpression_29 : decode cX2_readExpression 29 = .ok (.aload_n 0, 1) := by decide +kernel
theorem dX2_readExpression_30 : decode cX2_readExpression 30 = .ok (.getfield 25, 3) := by decide +kernel
theorem dX2_readExpression_33 : decode cX2_readExpression 33 = .ok (.invokevirtual 77, 3) := by decide +kernel
theorem dX2_readExpression_36 : decode cX2_readExpression 36 = .ok (.aload_n 0, 1) := by decide +kernel
theorem dX2_readExpression_37 : decode cX2_readExpression 37 = .ok (.iload_n 1, 1) := by decide +kernel
theorem dX2_readExpression_38 : decode cX2_readExpression 38 = .ok (.invokevirtual 171, 3) := by decide +kernel
theorem dX2_readExpression_41 : decode cX2_readExpression 41 = .ok (.lstore 5, 2) := by decide +kernel
theorem dX2_readExpression_43 : decode cX2_readExpression 43 = .ok (.lload_n 2, 1) := by decide +kernel
theorem dX2_readExpression_44 : decode cX2_readExpression 44 = .ok (.lload 5, 2) := by decide +kernel
theorem dX2_readExpression_46 : decode cX2_readExpression 46 = .ok (.land, 1) := by decide +kernel
theorem dX2_readExpression_47 : decode cX2_readExpression 47 = .ok (.ldc2_w 174, 3) := by decide +kernel
theorem dX2_readExpression_50 : decode cX2_readExpression 50 = .ok (.land, 1) := by decide +kernel
theorem dX2_readExpression_51 : decode cX2_readExpression 51 = .ok (.lload_n 2, 1) := by decide +kernel
theorem dX2_readExpression_52 : decode cX2_readExpression 52 = .ok (.lload 5, 2) := by decide +kernel
theorem dX2_readExpression_54 : decode cX2_readExpression 54 = .ok (.lor, 1) := by decide +kernel
theorem dX2_readExpression_55 : decode cX2_readExpression 55 = .ok (.ldc2_w 176, 3) := by decide +kernel
theorem dX2_readExpression_58 : decode cX2_readExpression 58 = .ok (.land, 1) := by decide +kernel
theorem dX2_readExpression_59 : decode cX2_readExpression 59 = .ok (.lor, 1) := by decide +kernel
theorem dX2_readExpression_60 : decode cX2_readExpression 60 = .ok (.lstore_n 2, 1) := by decide +kernel
theorem dX2_readExpression_61 : decode cX2_readExpression 61 = .ok (.iinc 4 1, 3) := by decide +kernel
theorem dX2_readExpression_64 : decode cX2_readExpression 64 = .ok (.goto (-55), 3) := by decide +kernel
theorem dX2_readExpression_67 : decode cX2_readExpression 67 = .ok (.lload_n 2, 1) := by decide +kernel
theorem dX2_readExpression_68 : decode cX2_readExpression 68 = .ok (.lreturn, 1) := by decide +kernel
theorem dX2_readTerm_0 : decode cX2_readTerm 0 = .ok (.aload_n 0, 1) := by decide +kernel
theorem dX2_readTerm_1 : decode cX2_readTerm 1 = .ok (.iload_n 1, 1) := by decide +kernel
theorem dX2_readTerm_2 : decode cX2_readTerm 2 = .ok (.invokevirtual 178, 3) := by decide +kernel
theorem dX2_readTerm_5 : decode cX2_readTerm 5 = .ok (.lstore_n 2, 1) := by decide +kernel
theorem dX2_readTerm_6 : decode cX2_readTerm 6 = .ok (.iconst 0, 1) := by decide +kernel
theorem dX2_readTerm_7 : decode cX2_readTerm 7 = .ok (.istore 4, 2) := by decide +kernel
theorem dX2_readTerm_9 : decode cX2_readTerm 9 = .ok (.iload 4, 2) := by decide +kernel
theorem dX2_readTerm_11 : decode cX2_readTerm 11 = .ok (.sipush 600, 3) := by decide +kernel
theorem dX2_readTerm_14 : decode cX2_readTerm 14 = .ok (.if_icmp .ge 53, 3) := by decide +kernel
theorem dX2_readTerm_17 : decode cX2_readTerm 17 = .ok (.aload_n 0, 1) := by decide +kernel
theorem dX2_readTerm_18 : decode cX2_readTerm 18 = .ok (.getfield 25, 3) := by decide +kernel
theorem dX2_readTerm_21 : decode cX2_readTerm 21 = .ok (.getfield 47, 3) := by decide +kernel
theorem dX2_readTerm_24 : decode cX2_readTerm 24 = .ok (.bipush 38, 2) := by decide +kernel
theorem dX2_readTerm_26 : decode cX2_readTerm 26 = .ok (.if_icmp .ne 41, 3) := by decide +kernel
theorem dX2_readTerm_29 : decode cX2_readTerm 29 = .ok (.aload_n 0, 1) := by decide +kernel
theorem dX2_readTerm_30 : decode cX2_readTerm 30 = .ok (.getfield 25, 3) := by decide +kernel
theorem dX2_readTerm_33 : decode cX2_readTerm 33 = .ok (.invokevirtual 77, 3) := by decide +kernel
theorem dX2_readTerm_36 : decode cX2_readTerm 36 = .ok (.aload_n 0, 1) := by decide +kernel
theorem dX2_readTerm_37 : decode cX2_readTerm 37 = .ok (.iload_n 1, 1) := by decide +kernel
theorem dX2_readTerm_38 : decode cX2_readTerm 38 = .ok (.invokevirtual 178, 3) := by decide +kernel
theorem dX2_readTerm_41 : decode cX2_readTerm 41 = .ok (.lstore 5, 2) := by decide +kernel
theorem dX2_readTerm_43 : decode cX2_readTerm 43 = .ok (.lload_n 2, 1) := by decide +kernel
theorem dX2_readTerm_44 : decode cX2_readTerm 44 = .ok (.lload 5, 2) := by decide +kernel
theorem dX2_readTerm_46 : decode cX2_readTerm 46 = .ok (.land, 1) := by decide +kernel
theorem dX2_readTerm_47 : decode cX2_readTerm 47 = .ok (.ldc2_w 176, 3) := by decide +kernel
theorem dX2_readTerm_50 : decode cX2_readTerm 50 = .ok (.land, 1) := by decide +kernel
theorem dX2_readTerm_51 : decode cX2_readTerm 51 = .ok (.lload_n 2, 1) := by decide +kernel
theorem dX2_readTerm_52 : decode cX2_readTerm 52 = .ok (.lload 5, 2) := by decide +kernel
theorem dX2_readTerm_54 : decode cX2_readTerm 54 = .ok (.lor, 1) := by decide +kernel
theorem dX2_readTerm_55 : decode cX2_readTerm 55 = .ok (.ldc2_w 174, 3) := by decide +kernel
theorem dX2_readTerm_58 : decode cX2_readTerm 58 = .ok (.land, 1) := by decide +kernel
theorem dX2_readTerm_59 : decode cX2_readTerm 59 = .ok (.lor, 1) := by decide +kernel
theorem dX2_readTerm_60 : decode cX2_readTerm 60 = .ok (.lstore_n 2, 1) := by decide +kernel
theorem dX2_readTerm_61 : decode cX2_readTerm 61 = .ok (.iinc 4 1, 3) := by decide +kernel
theorem dX2_readTerm_64 : decode cX2_readTerm 64 = .ok (.goto (-55), 3) := by decide +kernel
theorem dX2_readTerm_67 : decode cX2_readTerm 67 = .ok (.lload_n 2, 1) := by decide +kernel
theorem dX2_readTerm_68 : decode cX2_readTerm 68 = .ok (.lreturn, 1) := by decide +kernel
theorem dX2_readFactor_0 : decode cX2_readFactor 0 = .ok (.aload_n 0, 1) := by decide +kernel
theorem dX2_readFactor_1 : decode cX2_readFactor 1 = .ok (.getfield 25, 3) := by decide +kernel
theorem dX2_readFactor_4 : decode cX2_readFactor 4 = .ok (.getfield 47, 3) := by decide +kernel
theorem dX2_readFactor_7 : decode cX2_readFactor 7 = .ok (.lookupswitch 101 #[(33, 95), (40, 95), (42, 79), (48, 57), (49, 68), (258, 90)], 57) := by decide +kernel
theorem dX2_readFactor_64 : decode cX2_readFactor 64 = .ok (.aload_n 0, 1) := by decide +kernel
theorem dX2_readFactor_65 : decode cX2_readFactor 65 = .ok (.getfield 25, 3) := by decide +kernel
theorem dX2_readFactor_68 : decode cX2_readFactor 68 = .ok (.invokevirtual 77, 3) := by decide +kernel
theorem dX2_readFactor_71 : decode cX2_readFactor 71 = .ok (.ldc2_w 174, 3) := by decide +kernel
theorem dX2_readFactor_74 : decode cX2_readFactor 74 = .ok (.lreturn, 1) := by decide +kernel
theorem dX2_readFactor_75 : decode cX2_readFactor 75 = .ok (.aload_n 0, 1) := by decide +kernel
theorem dX2_readFactor_76 : decode cX2_readFactor 76 = .ok (.getfield 25, 3) := by decide +kernel
theorem dX2_readFactor_79 : decode cX2_readFactor 79 = .ok (.invokevirtual 77, 3) := by decide +kernel
theorem dX2_readFactor_82 : decode cX2_readFactor 82 = .ok (.ldc2_w 176, 3) := by decide +kernel
theorem dX2_readFactor_85 : decode cX2_readFactor 85 = .ok (.lreturn, 1) := by decide +kernel
theorem dX2_readFactor_86 : decode cX2_readFactor 86 = .ok (.aload_n 0, 1) := by decide +kernel
theorem dX2_readFactor_87 : decode cX2_readFactor 87 = .ok (.getfield 25, 3) := by decide +kernel
theorem dX2_readFactor_90 : decode cX2_readFactor 90 = .ok (.invokevirtual 77, 3) := by decide +kernel
theorem dX2_readFactor_93 : decode cX2_readFactor 93 = .ok (.ldc2_w 181, 3) := by decide +kernel
theorem dX2_readFactor_96 : decode cX2_readFactor 96 = .ok (.lreturn, 1) := by decide +kernel
theorem dX2_readFactor_97 : decode cX2_readFactor 97 = .ok (.aload_n 0, 1) := by decide +kernel
theorem dX2_readFactor_98 : decode cX2_readFactor 98 = .ok (.invokevirtual 183, 3) := by decide +kernel
theorem dX2_readFactor_101 : decode cX2_readFactor 101 = .ok (.lreturn, 1) := by decide +kernel
theorem dX2_readFactor_102 : decode cX2_readFactor 102 = .ok (.aload_n 0, 1) := by decide +kernel
theorem dX2_readFactor_103 : decode cX2_readFactor 103 = .ok (.iload_n 1, 1) := by decide +kernel
theorem dX2_readFactor_104 : decode cX2_readFactor 104 = .ok (.invokevirtual 187, 3) := by decide +kernel
theorem dX2_readFactor_107 : decode cX2_readFactor 107 = .ok (.lreturn, 1) := by decide +kernel
theorem dX2_readFactor_108 : decode cX2_readFactor 108 = .ok (.aload_n 0, 1) := by decide +kernel
theorem dX2_readFactor_109 : decode cX2_readFactor 109 = .ok (.getfield 25, 3) := by decide +kernel
theorem dX2_readFactor_112 : decode cX2_readFactor 112 = .ok (.iconst 2, 1) := by decide +kernel
theorem dX2_readFactor_113 : decode cX2_readFactor 113 = .ok (.invokevirtual 57, 3) := by decide +kernel
theorem dX2_readFactor_116 : decode cX2_readFactor 116 = .ok (.lconst 0, 1) := by decide +kernel
theorem dX2_readFactor_117 : decode cX2_readFactor 117 = .ok (.lreturn, 1) := by decide +kernel
theorem dX2_readVariableValue_0 : decode cX2_readVariableValue 0 = .ok (.aload_n 0, 1) := by decide +kernel
theorem dX2_readVariableValue_1 : decode cX2_readVariableValue 1 = .ok (.aload_n 0, 1) := by decide +kernel
theorem dX2_readVariableValue_2 : decode cX2_readVariableValue 2 = .ok (.getfield 25, 3) := by decide +kernel
theorem dX2_readVariableValue_5 : decode cX2_readVariableValue 5 = .ok (.getfield 90, 3) := by decide +kernel
theorem dX2_readVariableValue_8 : decode cX2_readVariableValue 8 = .ok (.invokevirtual 94, 3) := by decide +kernel
theorem dX2_readVariableValue_11 : decode cX2_readVariableValue 11 = .ok (.istore_n 1, 1) := by decide +kernel
theorem dX2_readVariableValue_12 : decode cX2_readVariableValue 12 = .ok (.iload_n 1, 1) := by decide +kernel
theorem dX2_readVariableValue_13 : decode cX2_readVariableValue 13 = .ok (.iconst (-1), 1) := by decide +kernel
theorem dX2_readVariableValue_14 : decode cX2_readVariableValue 14 = .ok (.if_icmp .ne 13, 3) := by decide +kernel
theorem dX2_readVariableValue_17 : decode cX2_readVariableValue 17 = .ok (.aload_n 0, 1) := by decide +kernel
theorem dX2_readVariableValue_18 : decode cX2_readVariableValue 18 = .ok (.getfield 25, 3) := by decide +kernel
theorem dX2_readVariableValue_21 : decode cX2_readVariableValue 21 = .ok (.iconst 3, 1) := by decide +kernel
theorem dX2_readVariableValue_22 : decode cX2_readVariableValue 22 = .ok (.invokevirtual 57, 3) := by decide +kernel
theorem dX2_readVariableValue_25 : decode cX2_readVariableValue 25 = .ok (.lconst 0, 1) := by decide +kernel
theorem dX2_readVariableValue_26 : decode cX2_readVariableValue 26 = .ok (.lreturn, 1) := by decide +kernel
theorem dX2_readVariableValue_27 : decode cX2_readVariableValue 27 = .ok (.aload_n 0, 1) := by decide +kernel
theorem dX2_readVariableValue_28 : decode cX2_readVariableValue 28 = .ok (.getfield 25, 3) := by decide +kernel
theorem dX2_readVariableValue_31 : decode cX2_readVariableValue 31 = .ok (.invokevirtual 77, 3) := by decide +kernel
theorem dX2_readVariableValue_34 : decode cX2_readVariableValue 34 = .ok (.getstatic 190, 3) := by decide +kernel
theorem dX2_readVariableValue_37 : decode cX2_readVariableValue 37 = .ok (.iload_n 1, 1) := by decide +kernel
theorem dX2_readVariableValue_38 : decode cX2_readVariableValue 38 = .ok (.iaload, 1) := by decide +kernel
theorem dX2_readVariableValue_39 : decode cX2_readVariableValue 39 = .ok (.i2l, 1) := by decide +kernel
theorem dX2_readVariableValue_40 : decode cX2_readVariableValue 40 = .ok (.bipush 32, 2) := by decide +kernel
theorem dX2_readVariableValue_42 : decode cX2_readVariableValue 42 = .ok (.lshl, 1) := by decide +kernel
theorem dX2_readVariableValue_43 : decode cX2_readVariableValue 43 = .ok (.lstore_n 2, 1) := by decide +kernel
theorem dX2_readVariableValue_44 : decode cX2_readVariableValue 44 = .ok (.lload_n 2, 1) := by decide +kernel
theorem dX2_readVariableValue_45 : decode cX2_readVariableValue 45 = .ok (.lload_n 2, 1) := by decide +kernel
theorem dX2_readVariableValue_46 : decode cX2_readVariableValue 46 = .ok (.ldc2_w 181, 3) := by decide +kernel
theorem dX2_readVariableValue_49 : decode cX2_readVariableValue 49 = .ok (.lxor, 1) := by decide +kernel
theorem dX2_readVariableValue_50 : decode cX2_readVariableValue 50 = .ok (.bipush 32, 2) := by decide +kernel
theorem dX2_readVariableValue_52 : decode cX2_readVariableValue 52 = .ok (.lushr, 1) := by decide +kernel
theorem dX2_readVariableValue_53 : decode cX2_readVariableValue 53 = .ok (.lor, 1) := by decide +kernel
theorem dX2_readVariableValue_54 : decode cX2_readVariableValue 54 = .ok (.lreturn, 1) := by decide +kernel
theorem dX2_readNested_0 : decode cX2_readNested 0 = .ok (.iload_n 1, 1) := by decide +kernel
theorem dX2_readNested_1 : decode cX2_readNested 1 = .ok (.bipush 10, 2) := by decide +kernel
theorem dX2_readNested_3 : decode cX2_readNested 3 = .ok (.if_icmp .lt 13, 3) := by decide +kernel
theorem dX2_readNested_6 : decode cX2_readNested 6 = .ok (.aload_n 0, 1) := by decide +kernel
theorem dX2_readNested_7 : decode cX2_readNested 7 = .ok (.getfield 25, 3) := by decide +kernel
theorem dX2_readNested_10 : decode cX2_readNested 10 = .ok (.iconst 3, 1) := by decide +kernel
theorem dX2_readNested_11 : decode cX2_readNested 11 = .ok (.invokevirtual 57, 3) := by decide +kernel
theorem dX2_readNested_14 : decode cX2_readNested 14 = .ok (.lconst 0, 1) := by decide +kernel
theorem dX2_readNested_15 : decode cX2_readNested 15 = .ok (.lreturn, 1) := by decide +kernel
theorem dX2_readNested_16 : decode cX2_readNested 16 = .ok (.aload_n 0, 1) := by decide +kernel
theorem dX2_readNested_17 : decode cX2_readNested 17 = .ok (.getfield 25, 3) := by decide +kernel
theorem dX2_readNested_20 : decode cX2_readNested 20 = .ok (.getfield 47, 3) := by decide +kernel
theorem dX2_readNested_23 : decode cX2_readNested 23 = .ok (.bipush 33, 2) := by decide +kernel
theorem dX2_readNested_25 : decode cX2_readNested 25 = .ok (.if_icmp .ne 7, 3) := by decide +kernel
theorem dX2_readNested_28 : decode cX2_readNested 28 = .ok (.iconst 1, 1) := by decide +kernel
theorem dX2_readNested_29 : decode cX2_readNested 29 = .ok (.goto 4, 3) := by decide +kernel
theorem dX2_readNested_32 : decode cX2_readNested 32 = .ok (.iconst 0, 1) := by decide +kernel
theorem dX2_readNested_33 : decode cX2_readNested 33 = .ok (.istore_n 2, 1) := by decide +kernel
theorem dX2_readNested_34 : decode cX2_readNested 34 = .ok (.aload_n 0, 1) := by decide +kernel
theorem dX2_readNested_35 : decode cX2_readNested 35 = .ok (.getfield 25, 3) := by decide +kernel
theorem dX2_readNested_38 : decode cX2_readNested 38 = .ok (.invokevirtual 77, 3) := by decide +kernel
theorem dX2_readNested_41 : decode cX2_readNested 41 = .ok (.iload_n 2, 1) := by decide +kernel
theorem dX2_readNested_42 : decode cX2_readNested 42 = .ok (.ifCond .eq 21, 3) := by decide +kernel
theorem dX2_readNested_45 : decode cX2_readNested 45 = .ok (.aload_n 0, 1) := by decide +kernel
theorem dX2_readNested_46 : decode cX2_readNested 46 = .ok (.iload_n 1, 1) := by decide +kernel
theorem dX2_readNested_47 : decode cX2_readNested 47 = .ok (.iconst 1, 1) := by decide +kernel
theorem dX2_readNested_48 : decode cX2_readNested 48 = .ok (.iadd, 1) := by decide +kernel
theorem dX2_readNested_49 : decode cX2_readNested 49 = .ok (.invokevirtual 178, 3) := by decide +kernel
theorem dX2_readNested_52 : decode cX2_readNested 52 = .ok (.lstore_n 3, 1) := by decide +kernel
theorem dX2_readNested_53 : decode cX2_readNested 53 = .ok (.lload_n 3, 1) := by decide +kernel
theorem dX2_readNested_54 : decode cX2_readNested 54 = .ok (.bipush 32, 2) := by decide +kernel
theorem dX2_readNested_56 : decode cX2_readNested 56 = .ok (.lshl, 1) := by decide +kernel
theorem dX2_readNested_57 : decode cX2_readNested 57 = .ok (.lload_n 3, 1) := by decide +kernel
theorem dX2_readNested_58 : decode cX2_readNested 58 = .ok (.bipush 32, 2) := by decide +kernel
theorem dX2_readNested_60 : decode cX2_readNested 60 = .ok (.lushr, 1) := by decide +kernel
theorem dX2_readNested_61 : decode cX2_readNested 61 = .ok (.lor, 1) := by decide +kernel
theorem dX2_readNested_62 : decode cX2_readNested 62 = .ok (.lreturn, 1) := by decide +kernel
theorem dX2_readNested_63 : decode cX2_readNested 63 = .ok (.aload_n 0, 1) := by decide +kernel
theorem dX2_readNested_64 : decode cX2_readNested 64 = .ok (.iload_n 1, 1) := by decide +kernel
theorem dX2_readNested_65 : decode cX2_readNested 65 = .ok (.iconst 1, 1) := by decide +kernel
theorem dX2_readNested_66 : decode cX2_readNested 66 = .ok (.iadd, 1) := by decide +kernel
theorem dX2_readNested_67 : decode cX2_readNested 67 = .ok (.invokevirtual 143, 3) := by decide +kernel
theorem dX2_readNested_70 : decode cX2_readNested 70 = .ok (.lstore_n 3, 1) := by decide +kernel
theorem dX2_readNested_71 : decode cX2_readNested 71 = .ok (.aload_n 0, 1) := by decide +kernel
theorem dX2_readNested_72 : decode cX2_readNested 72 = .ok (.getfield 25, 3) := by decide +kernel
theorem dX2_readNested_75 : decode cX2_readNested 75 = .ok (.bipush 41, 2) := by decide +kernel
theorem dX2_readNested_77 : decode cX2_readNested 77 = .ok (.invokevirtual 83, 3) := by decide +kernel
theorem dX2_readNested_80 : decode cX2_readNested 80 = .ok (.pop, 1) := by decide +kernel
theorem dX2_readNested_81 : decode cX2_readNested 81 = .ok (.lload_n 3, 1) := by decide +kernel
theorem dX2_readNested_82 : decode cX2_readNested 82 = .ok (.lreturn, 1) := by decide +kernel
theorem dX2_findVariable_0 : decode cX2_findVariable 0 = .ok (.iconst 0, 1) := by decide +kernel
theorem dX2_findVariable_1 : decode cX2_findVariable 1 = .ok (.istore_n 3, 1) := by decide +kernel
theorem dX2_findVariable_2 : decode cX2_findVariable 2 = .ok (.iload_n 3, 1) := by decide +kernel
theorem dX2_findVariable_3 : decode cX2_findVariable 3 = .ok (.aload_n 0, 1) := by decide +kernel
theorem dX2_findVariable_4 : decode cX2_findVariable 4 = .ok (.getfield 29, 3) := by decide +kernel
theorem dX2_findVariable_7 : decode cX2_findVariable 7 = .ok (.getfield 87, 3) := by decide +kernel
theorem dX2_findVariable_10 : decode cX2_findVariable 10 = .ok (.if_icmp .ge 22, 3) := by decide +kernel
theorem dX2_findVariable_13 : decode cX2_findVariable 13 = .ok (.aload_n 0, 1) := by decide +kernel
theorem dX2_findVariable_14 : decode cX2_findVariable 14 = .ok (.getfield 9, 3) := by decide +kernel
theorem dX2_findVariable_17 : decode cX2_findVariable 17 = .ok (.iload_n 3, 1) := by decide +kernel
theorem dX2_findVariable_18 : decode cX2_findVariable 18 = .ok (.laload, 1) := by decide +kernel
theorem dX2_findVariable_19 : decode cX2_findVariable 19 = .ok (.lload_n 1, 1) := by decide +kernel
theorem dX2_findVariable_20 : decode cX2_findVariable 20 = .ok (.lcmp, 1) := by decide +kernel
theorem dX2_findVariable_21 : decode cX2_findVariable 21 = .ok (.ifCond .ne 5, 3) := by decide +kernel
theorem dX2_findVariable_24 : decode cX2_findVariable 24 = .ok (.iload_n 3, 1) := by decide +kernel
theorem dX2_findVariable_25 : decode cX2_findVariable 25 = .ok (.ireturn, 1) := by decide +kernel
theorem dX2_findVariable_26 : decode cX2_findVariable 26 = .ok (.iinc 3 1, 3) := by decide +kernel
theorem dX2_findVariable_29 : decode cX2_findVariable 29 = .ok (.goto (-27), 3) := by decide +kernel
theorem dX2_findVariable_32 : decode cX2_findVariable 32 = .ok (.iconst 3, 1) := by decide +kernel
theorem dX2_findVariable_33 : decode cX2_findVariable 33 = .ok (.istore_n 3, 1) := by decide +kernel
theorem dX2_findVariable_34 : decode cX2_findVariable 34 = .ok (.iload_n 3, 1) := by decide +kernel
theorem dX2_findVariable_35 : decode cX2_findVariable 35 = .ok (.iconst 3, 1) := by decide +kernel
theorem dX2_findVariable_36 : decode cX2_findVariable 36 = .ok (.aload_n 0, 1) := by decide +kernel
theorem dX2_findVariable_37 : decode cX2_findVariable 37 = .ok (.getfield 38, 3) := by decide +kernel
theorem dX2_findVariable_40 : decode cX2_findVariable 40 = .ok (.iadd, 1) := by decide +kernel
theorem dX2_findVariable_41 : decode cX2_findVariable 41 = .ok (.if_icmp .ge 22, 3) := by decide +kernel
theorem dX2_findVariable_44 : decode cX2_findVariable 44 = .ok (.aload_n 0, 1) := by decide +kernel
theorem dX2_findVariable_45 : decode cX2_findVariable 45 = .ok (.getfield 9, 3) := by decide +kernel
theorem dX2_findVariable_48 : decode cX2_findVariable 48 = .ok (.iload_n 3, 1) := by decide +kernel
theorem dX2_findVariable_49 : decode cX2_findVariable 49 = .ok (.laload, 1) := by decide +kernel
theorem dX2_findVariable_50 : decode cX2_findVariable 50 = .ok (.lload_n 1, 1) := by decide +kernel
theorem dX2_findVariable_51 : decode cX2_findVariable 51 = .ok (.lcmp, 1) := by decide +kernel
theorem dX2_findVariable_52 : decode cX2_findVariable 52 = .ok (.ifCond .ne 5, 3) := by decide +kernel
theorem dX2_findVariable_55 : decode cX2_findVariable 55 = .ok (.iload_n 3, 1) := by decide +kernel
theorem dX2_findVariable_56 : decode cX2_findVariable 56 = .ok (.ireturn, 1) := by decide +kernel
theorem dX2_findVariable_57 : decode cX2_findVariable 57 = .ok (.iinc 3 1, 3) := by decide +kernel
theorem dX2_findVariable_60 : decode cX2_findVariable 60 = .ok (.goto (-26), 3) := by decide +kernel
theorem dX2_findVariable_63 : decode cX2_findVariable 63 = .ok (.iconst (-1), 1) := by decide +kernel
theorem dX2_findVariable_64 : decode cX2_findVariable 64 = .ok (.ireturn, 1) := by decide +kernel
theorem dX2_findProcedure_0 : decode cX2_findProcedure 0 = .ok (.iconst 0, 1) := by decide +kernel
theorem dX2_findProcedure_1 : decode cX2_findProcedure 1 = .ok (.istore_n 3, 1) := by decide +kernel
theorem dX2_findProcedure_2 : decode cX2_findProcedure 2 = .ok (.iload_n 3, 1) := by decide +kernel
theorem dX2_findProcedure_3 : decode cX2_findProcedure 3 = .ok (.aload_n 0, 1) := by decide +kernel
theorem dX2_findProcedure_4 : decode cX2_findProcedure 4 = .ok (.getfield 29, 3) := by decide +kernel
theorem dX2_findProcedure_7 : decode cX2_findProcedure 7 = .ok (.getfield 98, 3) := by decide +kernel
theorem dX2_findProcedure_10 : decode cX2_findProcedure 10 = .ok (.if_icmp .ge 22, 3) := by decide +kernel
theorem dX2_findProcedure_13 : decode cX2_findProcedure 13 = .ok (.aload_n 0, 1) := by decide +kernel
theorem dX2_findProcedure_14 : decode cX2_findProcedure 14 = .ok (.getfield 15, 3) := by decide +kernel
theorem dX2_findProcedure_17 : decode cX2_findProcedure 17 = .ok (.iload_n 3, 1) := by decide +kernel
theorem dX2_findProcedure_18 : decode cX2_findProcedure 18 = .ok (.laload, 1) := by decide +kernel
theorem dX2_findProcedure_19 : decode cX2_findProcedure 19 = .ok (.lload_n 1, 1) := by decide +kernel
theorem dX2_findProcedure_20 : decode cX2_findProcedure 20 = .ok (.lcmp, 1) := by decide +kernel
theorem dX2_findProcedure_21 : decode cX2_findProcedure 21 = .ok (.ifCond .ne 5, 3) := by decide +kernel
theorem dX2_findProcedure_24 : decode cX2_findProcedure 24 = .ok (.iload_n 3, 1) := by decide +kernel
theorem dX2_findProcedure_25 : decode cX2_findProcedure 25 = .ok (.ireturn, 1) := by decide +kernel
theorem dX2_findProcedure_26 : decode cX2_findProcedure 26 = .ok (.iinc 3 1, 3) := by decide +kernel
theorem dX2_findProcedure_29 : decode cX2_findProcedure 29 = .ok (.goto (-27), 3) := by decide +kernel
theorem dX2_findProcedure_32 : decode cX2_findProcedure 32 = .ok (.iconst (-1), 1) := by decide +kernel
theorem dX2_findProcedure_33 : decode cX2_findProcedure 33 = .ok (.ireturn, 1) := by decide +kernel
theorem dX3_init_0 : decode cX3_init 0 = .ok (.aload_n 0, 1) := by decide +kernel
theorem dX3_init_1 : decode cX3_init 1 = .ok (.invokespecial 5, 3) := by decide +kernel
theorem dX3_init_4 : decode cX3_init 4 = .ok (.aload_n 0, 1) := by decide +kernel
theorem dX3_init_5 : decode cX3_init 5 = .ok (.bipush 6, 2) := by decide +kernel
theorem dX3_init_7 : decode cX3_init 7 = .ok (.newarray .int, 2) := by decide +kernel
theorem dX3_init_9 : decode cX3_init 9 = .ok (.putfield 11, 3) := by decide +kernel
theorem dX3_init_12 : decode cX3_init 12 = .ok (.aload_n 0, 1) := by decide +kernel
theorem dX3_init_13 : decode cX3_init 13 = .ok (.bipush 40, 2) := by decide +kernel
theorem dX3_init_15 : decode cX3_init 15 = .ok (.newarray .int, 2) := by decide +kernel
theorem dX3_init_17 : decode cX3_init 17 = .ok (.putfield 15, 3) := by decide +kernel
theorem dX3_init_20 : decode cX3_init 20 = .ok (.aload_n 0, 1) := by decide +kernel
theorem dX3_init_21 : decode cX3_init 21 = .ok (.bipush 40, 2) := by decide +kernel
theorem dX3_init_23 : decode cX3_init 23 = .ok (.newarray .int, 2) := by decide +kernel
theorem dX3_init_25 : decode cX3_init 25 = .ok (.putfield 18, 3) := by decide +kernel
theorem dX3_init_28 : decode cX3_init 28 = .ok (.aload_n 0, 1) := by decide +kernel
theorem dX3_init_29 : decode cX3_init 29 = .ok (.bipush 40, 2) := by decide +kernel
theorem dX3_init_31 : decode cX3_init 31 = .ok (.newarray .int, 2) := by decide +kernel
theorem dX3_init_33 : decode cX3_init 33 = .ok (.putfield 21, 3) := by decide +kernel
theorem dX3_init_36 : decode cX3_init 36 = .ok (.aload_n 0, 1) := by decide +kernel
theorem dX3_init_37 : decode cX3_init 37 = .ok (.bipush 40, 2) := by decide +kernel
theorem dX3_init_39 : decode cX3_init 39 = .ok (.newarray .long, 2) := by decide +kernel
theorem dX3_init_41 : decode cX3_init 41 = .ok (.putfield 24, 3) := by decide +kernel
theorem dX3_init_44 : decode cX3_init 44 = .ok (.aload_n 0, 1) := by decide +kernel
theorem dX3_init_45 : decode cX3_init 45 = .ok (.bipush 40, 2) := by decide +kernel
theorem dX3_init_47 : decode cX3_init 47 = .ok (.newarray .int, 2) := by decide +kernel
theorem dX3_init_49 : decode cX3_init 49 = .ok (.putfield 28, 3) := by decide +kernel
theorem dX3_init_52 : decode cX3_init 52 = .ok (.aload_n 0, 1) := by decide +kernel
theorem dX3_init_53 : decode cX3_init 53 = .ok (.bipush 40, 2) := by decide +kernel
theorem dX3_init_55 : decode cX3_init 55 = .ok (.newarray .int, 2) := by decide +kernel
theorem dX3_init_57 : decode cX3_init 57 = .ok (.putfield 31, 3) := by decide +kernel
theorem dX3_init_60 : decode cX3_init 60 = .ok (.aload_n 0, 1) := by decide +kernel
theorem dX3_init_61 : decode cX3_init 61 = .ok (.bipush 40, 2) := by decide +kernel
theorem dX3_init_63 : decode cX3_init 63 = .ok (.newarray .int, 2) := by decide +kernel
theorem dX3_init_65 : decode cX3_init 65 = .ok (.putfield 34, 3) := by decide +kernel
theorem dX3_init_68 : decode cX3_init 68 = .ok (.aload_n 0, 1) := by decide +kernel
theorem dX3_init_69 : decode cX3_init 69 = .ok (.bipush 40, 2) := by decide +kernel
theorem dX3_init_71 : decode cX3_init 71 = .ok (.newarray .int, 2) := by decide +kernel
theorem dX3_init_73 : decode cX3_init 73 = .ok (.putfield 37, 3) := by decide +kernel
theorem dX3_init_76 : decode cX3_init 76 = .ok (.aload_n 0, 1) := by decide +kernel
theorem dX3_init_77 : decode cX3_init 77 = .ok (.bipush 40, 2) := by decide +kernel
theorem dX3_init_79 : decode cX3_init 79 = .ok (.newarray .int, 2) := by decide +kernel
theorem dX3_init_81 : decode cX3_init 81 = .ok (.putfield 40, 3) := by decide +kernel
theorem dX3_init_84 : decode cX3_init 84 = .ok (.aload_n 0, 1) := by decide +kernel
theorem dX3_init_85 : decode cX3_init 85 = .ok (.bipush 40, 2) := by decide +kernel
theorem dX3_init_87 : decode cX3_init 87 = .ok (.newarray .int, 2) := by decide +kernel
theorem dX3_init_89 : decode cX3_init 89 = .ok (.putfield 43, 3) := by decide +kernel
theorem dX3_init_92 : decode cX3_init 92 = .ok (.aload_n 0, 1) := by decide +kernel
theorem dX3_init_93 : decode cX3_init 93 = .ok (.bipush 40, 2) := by decide +kernel
theorem dX3_init_95 : decode cX3_init 95 = .ok (.newarray .int, 2) := by decide +kernel
theorem dX3_init_97 : decode cX3_init 97 = .ok (.putfield 46, 3) := by decide +kernel
theorem dX3_init_100 : decode cX3_init 100 = .ok (.aload_n 0, 1) := by decide +kernel
theorem dX3_init_101 : decode cX3_init 101 = .ok (.bipush 40, 2) := by decide +kernel
theorem dX3_init_103 : decode cX3_init 103 = .ok (.newarray .int, 2) := by decide +kernel
theorem dX3_init_105 : decode cX3_init 105 = .ok (.putfield 49, 3) := by decide +kernel
theorem dX3_init_108 : decode cX3_init 108 = .ok (.aload_n 0, 1) := by decide +kernel
theorem dX3_init_109 : decode cX3_init 109 = .ok (.bipush 40, 2) := by decide +kernel
theorem dX3_init_111 : decode cX3_init 111 = .ok (.newarray .int, 2) := by decide +kernel
theorem dX3_init_113 : decode cX3_init 113 = .ok (.putfield 52, 3) := by decide +kernel
theorem dX3_init_116 : decode cX3_init 116 = .ok (.return_, 1) := by decide +kernel
theorem dX3_removeAll_0 : decode cX3_removeAll 0 = .ok (.aload_n 0, 1) := by decide +kernel
theorem dX3_removeAll_1 : decode cX3_removeAll 1 = .ok (.iconst 0, 1) := by decide +kernel
theorem dX3_removeAll_2 : decode cX3_removeAll 2 = .ok (.putfield 55, 3) := by decide +kernel
theorem dX3_removeAll_5 : decode cX3_removeAll 5 = .ok (.aload_n 0, 1) := by decide +kernel
theorem dX3_removeAll_6 : decode cX3_removeAll 6 = .ok (.iconst 0, 1) := by decide +kernel
theorem dX3_removeAll_7 : decode cX3_removeAll 7 = .ok (.putfield 59, 3) := by decide +kernel
theorem dX3_removeAll_10 : decode cX3_removeAll 10 = .ok (.aload_n 0, 1) := by decide +kernel
theorem dX3_removeAll_11 : decode cX3_removeAll 11 = .ok (.iconst 0, 1) := by decide +kernel
theorem dX3_removeAll_12 : decode cX3_removeAll 12 = .ok (.putfield 63, 3) := by decide +kernel
theorem dX3_removeAll_15 : decode cX3_removeAll 15 = .ok (.aload_n 0, 1) := by decide +kernel
theorem dX3_removeAll_16 : decode cX3_removeAll 16 = .ok (.iconst 0, 1) := by decide +kernel
theorem dX3_removeAll_17 : decode cX3_removeAll 17 = .ok (.putfield 66, 3) := by decide +kernel
theorem dX3_removeAll_20 : decode cX3_removeAll 20 = .ok (.return_, 1) := by decide +kernel
theorem dX3_addStatement_0 : decode cX3_addStatement 0 = .ok (.aload_n 0, 1) := by decide +kernel
theorem dX3_addStatement_1 : decode cX3_addStatement 1 = .ok (.getfield 66, 3) := by decide +kernel
theorem dX3_addStatement_4 : decode cX3_addStatement 4 = .ok (.bipush 40, 2) := by decide +kernel
theorem dX3_addStatement_6 : decode cX3_addStatement 6 = .ok (.if_icmp .lt 5, 3) := by decide +kernel
theorem dX3_addStatement_9 : decode cX3_addStatement 9 = .ok (.iconst (-1), 1) := by decide +kernel
theorem dX3_addStatement_10 : decode cX3_addStatement 10 = .ok (.ireturn, 1) := by decide +kernel
theorem dX3_addStatement_11 : decode cX3_addStatement 11 = .ok (.aload_n 0, 1) := by decide +kernel
theorem dX3_addStatement_12 : decode cX3_addStatement 12 = .ok (.getfield 66, 3) := by decide +kernel
theorem dX3_addStatement_15 : decode cX3_addStatement 15 = .ok (.istore 4, 2) := by decide +kernel
theorem dX3_addStatement_17 : decode cX3_addStatement 17 = .ok (.aload_n 0, 1) := by decide +kernel
theorem dX3_addStatement_18 : decode cX3_addStatement 18 = .ok (.getfield 15, 3) := by decide +kernel
theorem dX3_addStatement_21 : decode cX3_addStatement 21 = .ok (.iload 4, 2) := by decide +kernel
theorem dX3_addStatement_23 : decode cX3_addStatement 23 = .ok (.iload_n 1, 1) := by decide +kernel
theorem dX3_addStatement_24 : decode cX3_addStatement 24 = .ok (.iastore, 1) := by decide +kernel
theorem dX3_addStatement_25 : decode cX3_addStatement 25 = .ok (.aload_n 0, 1) := by decide +kernel
theorem dX3_addStatement_26 : decode cX3_addStatement 26 = .ok (.getfield 18, 3) := by decide +kernel
theorem dX3_addStatement_29 : decode cX3_addStatement 29 = .ok (.iload 4, 2) := by decide +kernel
theorem dX3_addStatement_31 : decode cX3_addStatement 31 = .ok (.iload_n 2, 1) := by decide +kernel
theorem dX3_addStatement_32 : decode cX3_addStatement 32 = .ok (.iastore, 1) := by decide +kernel
theorem dX3_addStatement_33 : decode cX3_addStatement 33 = .ok (.aload_n 0, 1) := by decide +kernel
theorem dX3_addStatement_34 : decode cX3_addStatement 34 = .ok (.getfield 21, 3) := by decide +kernel
theorem dX3_addStatement_37 : decode cX3_addStatement 37 = .ok (.iload 4, 2) := by decide +kernel
theorem dX3_addStatement_39 : decode cX3_addStatement 39 = .ok (.aload_n 0, 1) := by decide +kernel
theorem dX3_addStatement_40 : decode cX3_addStatement 40 = .ok (.getfield 63, 3) := by decide +kernel
theorem dX3_addStatement_43 : decode cX3_addStatement 43 = .ok (.iconst 1, 1) := by decide +kernel
theorem dX3_addStatement_44 : decode cX3_addStatement 44 = .ok (.isub, 1) := by decide +kernel
theorem dX3_addStatement_45 : decode cX3_addStatement 45 = .ok (.iastore, 1) := by decide +kernel
theorem dX3_addStatement_46 : decode cX3_addStatement 46 = .ok (.aload_n 0, 1) := by decide +kernel
theorem dX3_addStatement_47 : decode cX3_addStatement 47 = .ok (.getfield 24, 3) := by decide +kernel
theorem dX3_addStatement_50 : decode cX3_addStatement 50 = .ok (.iload 4, 2) := by decide +kernel
theorem dX3_addStatement_52 : decode cX3_addStatement 52 = .ok (.ldc2_w 69, 3) := by decide +kernel
theorem dX3_addStatement_55 : decode cX3_addStatement 55 = .ok (.lastore, 1) := by decide +kernel
theorem dX3_addStatement_56 : decode cX3_addStatement 56 = .ok (.aload_n 0, 1) := by decide +kernel
theorem dX3_addStatement_57 : decode cX3_addStatement 57 = .ok (.getfield 28, 3) := by decide +kernel
theorem dX3_addStatement_60 : decode cX3_addStatement 60 = .ok (.iload 4, 2) := by decide +kernel
theorem dX3_addStatement_62 : decode cX3_addStatement 62 = .ok (.iconst 0, 1) := by decide +kernel
theorem dX3_addStatement_63 : decode cX3_addStatement 63 = .ok (.iastore, 1) := by decide +kernel
theorem dX3_addStatement_64 : decode cX3_addStatement 64 = .ok (.aload_n 0, 1) := by decide +kernel
theorem dX3_addStatement_65 : decode cX3_addStatement 65 = .ok (.getfield 31, 3) := by decide +kernel
theorem dX3_addStatement_68 : decode cX3_addStatement 68 = .ok (.iload 4, 2) := by decide +kernel
theorem dX3_addStatement_70 : decode cX3_addStatement 70 = .ok (.iconst 0, 1) := by decide +kernel
theorem dX3_addStatement_71 : decode cX3_addStatement 71 = .ok (.iastore, 1) := by decide +kernel
theorem dX3_addStatement_72 : decode cX3_addStatement 72 = .ok (.aload_n 0, 1) := by decide +kernel
theorem dX3_addStatement_73 : decode cX3_addStatement 73 = .ok (.getfield 40, 3) := by decide +kernel
theorem dX3_addStatement_76 : decode cX3_addStatement 76 = .ok (.iload 4, 2) := by decide +kernel
theorem dX3_addStatement_78 : decode cX3_addStatement 78 = .ok (.iload_n 3, 1) := by decide +kernel
theorem dX3_addStatement_79 : decode cX3_addStatement 79 = .ok (.iastore, 1) := by decide +kernel
theorem dX3_addStatement_80 : decode cX3_addStatement 80 = .ok (.aload_n 0, 1) := by decide +kernel
theorem dX3_addStatement_81 : decode cX3_addStatement 81 = .ok (.getfield 43, 3) := by decide +kernel
theorem dX3_addStatement_84 : decode cX3_addStatement 84 = .ok (.iload 4, 2) := by decide +kernel
theorem dX3_addStatement_86 : decode cX3_addStatement 86 = .ok (.iconst (-1), 1) := by decide +kernel
theorem dX3_addStatement_87 : decode cX3_addStatement 87 = .ok (.iastore, 1) := by decide +kernel
theorem dX3_addStatement_88 : decode cX3_addStatement 88 = .ok (.aload_n 0, 1) := by decide +kernel
theorem dX3_addStatement_89 : decode cX3_addStatement 89 = .ok (.getfield 46, 3) := by decide +kernel
theorem dX3_addStatement_92 : decode cX3_addStatement 92 = .ok (.iload 4, 2) := by decide +kernel
theorem dX3_addStatement_94 : decode cX3_addStatement 94 = .ok (.iconst (-1), 1) := by decide +kernel
theorem dX3_addStatement_95 : decode cX3_addStatement 95 = .ok (.iastore, 1) := by decide +kernel
theorem dX3_addStatement_96 : decode cX3_addStatement 96 = .ok (.aload_n 0, 1) := by decide +kernel
theorem dX3_addStatement_97 : decode cX3_addStatement 97 = .ok (.getfield 49, 3) := by decide +kernel
theorem dX3_addStatement_100 : decode cX3_addStatement 100 = .ok (.iload 4, 2) := by decide +kernel
theorem dX3_addStatement_102 : decode cX3_addStatement 102 = .ok (.iconst (-1), 1) := by decide +kernel
theorem dX3_addStatement_103 : decode cX3_addStatement 103 = .ok (.iastore, 1) := by decide +kernel
theorem dX3_addStatement_104 : decode cX3_addStatement 104 = .ok (.aload_n 0, 1) := by decide +kernel
theorem dX3_addStatement_105 : decode cX3_addStatement 105 = .ok (.dup, 1) := by decide +kernel
theorem dX3_addStatement_106 : decode cX3_addStatement 106 = .ok (.getfield 66, 3) := by decide +kernel
theorem dX3_addStatement_109 : decode cX3_addStatement 109 = .ok (.iconst 1, 1) := by decide +kernel
theorem dX3_addStatement_110 : decode cX3_addStatement 110 = .ok (.iadd, 1) := by decide +kernel
theorem dX3_addStatement_111 : decode cX3_addStatement 111 = .ok (.putfield 66, 3) := by decide +kernel
theorem dX3_addStatement_114 : decode cX3_addStatement 114 = .ok (.iload 4, 2) := by decide +kernel
theorem dX3_addStatement_116 : decode cX3_addStatement 116 = .ok (.ireturn, 1) := by decide +kernel
theorem dX3_aboutStatement_0 : decode cX3_aboutStatement 0 = .ok (.iload_n 2, 1) := by decide +kernel
theorem dX3_aboutStatement_1 : decode cX3_aboutStatement 1 = .ok (.ifCond .lt 11, 3) := by decide +kernel
theorem dX3_aboutStatement_4 : decode cX3_aboutStatement 4 = .ok (.iload_n 2, 1) := by decide +kernel
theorem dX3_aboutStatement_5 : decode cX3_aboutStatement 5 = .ok (.aload_n 0, 1) := by decide +kernel
theorem dX3_aboutStatement_6 : decode cX3_aboutStatement 6 = .ok (.getfield 66, 3) := by decide +kernel
theorem dX3_aboutStatement_9 : decode cX3_aboutStatement 9 = .ok (.if_icmp .lt 6, 3) := by decide +kernel
theorem dX3_aboutStatement_12 : decode cX3_aboutStatement 12 = .ok (.bipush (-2), 2) := by decide +kernel
theorem dX3_aboutStatement_14 : decode cX3_aboutStatement 14 = .ok (.ireturn, 1) := by decide +kernel
theorem dX3_aboutStatement_15 : decode cX3_aboutStatement 15 = .ok (.iload_n 1, 1) := by decide +kernel
theorem dX3_aboutStatement_16 : decode cX3_aboutStatement 16 = .ok (.tableswitch 49 3 5 #[28, 35, 42], 28) := by decide +kernel
theorem dX3_aboutStatement_44 : decode cX3_aboutStatement 44 = .ok (.aload_n 0, 1) := by decide +kernel
theorem dX3_aboutStatement_45 : decode cX3_aboutStatement 45 = .ok (.getfield 18, 3) := by decide +kernel
theorem dX3_aboutStatement_48 : decode cX3_aboutStatement 48 = .ok (.iload_n 2, 1) := by decide +kernel
theorem dX3_aboutStatement_49 : decode cX3_aboutStatement 49 = .ok (.iaload, 1) := by decide +kernel
theorem dX3_aboutStatement_50 : decode cX3_aboutStatement 50 = .ok (.ireturn, 1) := by decide +kernel
theorem dX3_aboutStatement_51 : decode cX3_aboutStatement 51 = .ok (.aload_n 0, 1) := by decide +kernel
theorem dX3_aboutStatement_52 : decode cX3_aboutStatement 52 = .ok (.getfield 21, 3) := by decide +kernel
theorem dX3_aboutStatement_55 : decode cX3_aboutStatement 55 = .ok (.iload_n 2, 1) := by decide +kernel
theorem dX3_aboutStatement_56 : decode cX3_aboutStatement 56 = .ok (.iaload, 1) := by decide +kernel
theorem dX3_aboutStatement_57 : decode cX3_aboutStatement 57 = .ok (.ireturn, 1) := by decide +kernel
theorem dX3_aboutStatement_58 : decode cX3_aboutStatement 58 = .ok (.aload_n 0, 1) := by decide +kernel
theorem dX3_aboutStatement_59 : decode cX3_aboutStatement 59 = .ok (.getfield 15, 3) := by decide +kernel
theorem dX3_aboutStatement_62 : decode cX3_aboutStatement 62 = .ok (.iload_n 2, 1) := by decide +kernel
theorem dX3_aboutStatement_63 : decode cX3_aboutStatement 63 = .ok (.iaload, 1) := by decide +kernel
theorem dX3_aboutStatement_64 : decode cX3_aboutStatement 64 = .ok (.ireturn, 1) := by decide +kernel
theorem dX3_aboutStatement_65 : decode cX3_aboutStatement 65 = .ok (.bipush (-2), 2) := by decide +kernel
theorem dX3_aboutStatement_67 : decode cX3_aboutStatement 67 = .ok (.ireturn, 1) := by decide +kernel
theorem dX3_link_0 : decode cX3_link 0 = .ok (.iconst 0, 1) := by decide +kernel
theorem dX3_link_1 : decode cX3_link 1 = .ok (.istore_n 1, 1) := by decide +kernel
theorem dX3_link_2 : decode cX3_link 2 = .ok (.iload_n 1, 1) := by decide +kernel
theorem dX3_link_3 : decode cX3_link 3 = .ok (.aload_n 0, 1) := by decide +kernel
theorem dX3_link_4 : decode cX3_link 4 = .ok (.getfield 66, 3) := by decide +kernel
theorem dX3_link_7 : decode cX3_link 7 = .ok (.if_icmp .ge 212, 3) := by decide +kernel
theorem dX3_link_10 : decode cX3_link 10 = .ok (.aload_n 0, 1) := by decide +kernel
theorem dX3_link_11 : decode cX3_link 11 = .ok (.getfield 52, 3) := by decide +kernel
theorem dX3_link_14 : decode cX3_link 14 = .ok (.iload_n 1, 1) := by decide +kernel
theorem dX3_link_15 : decode cX3_link 15 = .ok (.aload_n 0, 1) := by decide +kernel
theorem dX3_link_16 : decode cX3_link 16 = .ok (.iload_n 1, 1) := by decide +kernel
theorem dX3_link_17 : decode cX3_link 17 = .ok (.invokevirtual 71, 3) := by decide +kernel
theorem dX3_link_20 : decode cX3_link 20 = .ok (.iastore, 1) := by decide +kernel
theorem dX3_link_21 : decode cX3_link 21 = .ok (.aload_n 0, 1) := by decide +kernel
theorem dX3_link_22 : decode cX3_link 22 = .ok (.getfield 37, 3) := by decide +kernel
theorem dX3_link_25 : decode cX3_link 25 = .ok (.iload_n 1, 1) := by decide +kernel
theorem dX3_link_26 : decode cX3_link 26 = .ok (.aload_n 0, 1) := by decide +kernel
theorem dX3_link_27 : decode cX3_link 27 = .ok (.getfield 15, 3) := by decide +kernel
theorem dX3_link_30 : decode cX3_link 30 = .ok (.iload_n 1, 1) := by decide +kernel
theorem dX3_link_31 : decode cX3_link 31 = .ok (.iaload, 1) := by decide +kernel
theorem dX3_link_32 : decode cX3_link 32 = .ok (.bipush 6, 2) := by decide +kernel
theorem dX3_link_34 : decode cX3_link 34 = .ok (.if_icmp .ne 7, 3) := by decide +kernel
theorem dX3_link_37 : decode cX3_link 37 = .ok (.iconst (-1), 1) := by decide +kernel
theorem dX3_link_38 : decode cX3_link 38 = .ok (.goto 9, 3) := by decide +kernel
theorem dX3_link_41 : decode cX3_link 41 = .ok (.aload_n 0, 1) := by decide +kernel
theorem dX3_link_42 : decode cX3_link 42 = .ok (.getfield 52, 3) := by decide +kernel
theorem dX3_link_45 : decode cX3_link 45 = .ok (.iload_n 1, 1) := by decide +kernel
theorem dX3_link_46 : decode cX3_link 46 = .ok (.iaload, 1) := by decide +kernel
theorem dX3_link_47 : decode cX3_link 47 = .ok (.iastore, 1) := by decide +kernel
theorem dX3_link_48 : decode cX3_link 48 = .ok (.aload_n 0, 1) := by decide +kernel
theorem dX3_link_49 : decode cX3_link 49 = .ok (.getfield 34, 3) := by decide +kernel
theorem dX3_link_52 : decode cX3_link 52 = .ok (.iload_n 1, 1) := by decide +kernel
theorem dX3_link_53 : decode cX3_link 53 = .ok (.aload_n 0, 1) := by decide +kernel
theorem dX3_link_54 : decode cX3_link 54 = .ok (.getfield 52, 3) := by decide +kernel
theorem dX3_link_57 : decode cX3_link 57 = .ok (.iload_n 1, 1) := by decide +kernel
theorem dX3_link_58 : decode cX3_link 58 = .ok (.iaload, 1) := by decide +kernel
theorem dX3_link_59 : decode cX3_link 59 = .ok (.iastore, 1) := by decide +kernel
theorem dX3_link_60 : decode cX3_link 60 = .ok (.aload_n 0, 1) := by decide +kernel
theorem dX3_link_61 : decode cX3_link 61 = .ok (.getfield 15, 3) := by decide +kernel
theorem dX3_link_64 : decode cX3_link 64 = .ok (.iload_n 1, 1) := by decide +kernel
theorem dX3_link_65 : decode cX3_link 65 = .ok (.iaload, 1) := by decide +kernel
theorem dX3_link_66 : decode cX3_link 66 = .ok (.iconst 1, 1) := by decide +kernel
theorem dX3_link_67 : decode cX3_link 67 = .ok (.if_icmp .ne 68, 3) := by decide +kernel
theorem dX3_link_70 : decode cX3_link 70 = .ok (.aload_n 0, 1) := by decide +kernel
theorem dX3_link_71 : decode cX3_link 71 = .ok (.getfield 37, 3) := by decide +kernel
theorem dX3_link_74 : decode cX3_link 74 = .ok (.iload_n 1, 1) := by decide +kernel
theorem dX3_link_75 : decode cX3_link 75 = .ok (.aload_n 0, 1) := by decide +kernel
theorem dX3_link_76 : decode cX3_link 76 = .ok (.getfield 46, 3) := by decide +kernel
theorem dX3_link_79 : decode cX3_link 79 = .ok (.iload_n 1, 1) := by decide +kernel
theorem dX3_link_80 : decode cX3_link 80 = .ok (.iaload, 1) := by decide +kernel
theorem dX3_link_81 : decode cX3_link 81 = .ok (.iconst (-1), 1) := by decide +kernel
theorem dX3_link_82 : decode cX3_link 82 = .ok (.if_icmp .ne 12, 3) := by decide +kernel
theorem dX3_link_85 : decode cX3_link 85 = .ok (.aload_n 0, 1) := by decide +kernel
theorem dX3_link_86 : decode cX3_link 86 = .ok (.getfield 52, 3) := by decide +kernel
theorem dX3_link_89 : decode cX3_link 89 = .ok (.iload_n 1, 1) := by decide +kernel
theorem dX3_link_90 : decode cX3_link 90 = .ok (.iaload, 1) := by decide +kernel
theorem dX3_link_91 : decode cX3_link 91 = .ok (.goto 9, 3) := by decide +kernel
theorem dX3_link_94 : decode cX3_link 94 = .ok (.aload_n 0, 1) := by decide +kernel
theorem dX3_link_95 : decode cX3_link 95 = .ok (.getfield 46, 3) := by decide +kernel
theorem dX3_link_98 : decode cX3_link 98 = .ok (.iload_n 1, 1) := by decide +kernel
theorem dX3_link_99 : decode cX3_link 99 = .ok (.iaload, 1) := by decide +kernel
theorem dX3_link_100 : decode cX3_link 100 = .ok (.iastore, 1) := by decide +kernel
theorem dX3_link_101 : decode cX3_link 101 = .ok (.aload_n 0, 1) := by decide +kernel
theorem dX3_link_102 : decode cX3_link 102 = .ok (.getfield 34, 3) := by decide +kernel
theorem dX3_link_105 : decode cX3_link 105 = .ok (.iload_n 1, 1) := by decide +kernel
theorem dX3_link_106 : decode cX3_link 106 = .ok (.aload_n 0, 1) := by decide +kernel
theorem dX3_link_107 : decode cX3_link 107 = .ok (.getfield 49, 3) := by decide +kernel
theorem dX3_link_110 : decode cX3_link 110 = .ok (.iload_n 1, 1) := by decide +kernel
theorem dX3_link_111 : decode cX3_link 111 = .ok (.iaload, 1) := by decide +kernel
theorem dX3_link_112 : decode cX3_link 112 = .ok (.iconst (-1), 1) := by decide +kernel
theorem dX3_link_113 : decode cX3_link 113 = .ok (.if_icmp .ne 12, 3) := by decide +kernel
theorem dX3_link_116 : decode cX3_link 116 = .ok (.aload_n 0, 1) := by decide +kernel
theorem dX3_link_117 : decode cX3_link 117 = .ok (.getfield 52, 3) := by decide +kernel
theorem dX3_link_120 : decode cX3_link 120 = .ok (.iload_n 1, 1) := by decide +kernel
theorem dX3_link_121 : decode cX3_link 121 = .ok (.iaload, 1) := by decide +kernel
theorem dX3_link_122 : decode cX3_link 122 = .ok (.goto 9, 3) := by decide +kernel
theorem dX3_link_125 : decode cX3_link 125 = .ok (.aload_n 0, 1) := by decide +kernel
theorem dX3_link_126 : decode cX3_link 126 = .ok (.getfield 49, 3) := by decide +kernel
theorem dX3_link_129 : decode cX3_link 129 = .ok (.iload_n 1, 1) := by decide +kernel
theorem dX3_link_130 : decode cX3_link 130 = .ok (.iaload, 1) := by decide +kernel
theorem dX3_link_131 : decode cX3_link 131 = .ok (.iastore, 1) := by decide +kernel
theorem dX3_link_132 : decode cX3_link 132 = .ok (.goto 81, 3) := by decide +kernel
theorem dX3_link_135 : decode cX3_link 135 = .ok (.aload_n 0, 1) := by decide +kernel
theorem dX3_link_136 : decode cX3_link 136 = .ok (.getfield 15, 3) := by decide +kernel
theorem dX3_link_139 : decode cX3_link 139 = .ok (.iload_n 1, 1) := by decide +kernel
theorem dX3_link_140 : decode cX3_link 140 = .ok (.iaload, 1) := by decide +kernel
theorem dX3_link_141 : decode cX3_link 141 = .ok (.iconst 2, 1) := by decide +kernel
theorem dX3_link_142 : decode cX3_link 142 = .ok (.if_icmp .ne 32, 3) := by decide +kernel
theorem dX3_link_145 : decode cX3_link 145 = .ok (.aload_n 0, 1) := by decide +kernel
theorem dX3_link_146 : decode cX3_link 146 = .ok (.getfield 37, 3) := by decide +kernel
theorem dX3_link_149 : decode cX3_link 149 = .ok (.iload_n 1, 1) := by decide +kernel
theorem dX3_link_150 : decode cX3_link 150 = .ok (.aload_n 0, 1) := by decide +kernel
theorem dX3_link_151 : decode cX3_link 151 = .ok (.getfield 46, 3) := by decide +kernel
theorem dX3_link_154 : decode cX3_link 154 = .ok (.iload_n 1, 1) := by decide +kernel
theorem dX3_link_155 : decode cX3_link 155 = .ok (.iaload, 1) := by decide +kernel
theorem dX3_link_156 : decode cX3_link 156 = .ok (.iconst (-1), 1) := by decide +kernel
theorem dX3_link_157 : decode cX3_link 157 = .ok (.if_icmp .ne 7, 3) := by decide +kernel
theorem dX3_link_160 : decode cX3_link 160 = .ok (.iload_n 1, 1) := by decide +kernel
theorem dX3_link_161 : decode cX3_link 161 = .ok (.goto 9, 3) := by decide +kernel
theorem dX3_link_164 : decode cX3_link 164 = .ok (.aload_n 0, 1) := by decide +kernel
theorem dX3_link_165 : decode cX3_link 165 = .ok (.getfield 46, 3) := by decide +kernel
theorem dX3_link_168 : decode cX3_link 168 = .ok (.iload_n 1, 1) := by decide +kernel
theorem dX3_link_169 : decode cX3_link 169 = .ok (.iaload, 1) := by decide +kernel
theorem dX3_link_170 : decode cX3_link 170 = .ok (.iastore, 1) := by decide +kernel
theorem dX3_link_171 : decode cX3_link 171 = .ok (.goto 42, 3) := by decide +kernel
theorem dX3_link_174 : decode cX3_link 174 = .ok (.aload_n 0, 1) := by decide +kernel
theorem dX3_link_175 : decode cX3_link 175 = .ok (.getfield 15, 3) := by decide +kernel
theorem dX3_link_178 : decode cX3_link 178 = .ok (.iload_n 1, 1) := by decide +kernel
theorem dX3_link_179 : decode cX3_link 179 = .ok (.iaload, 1) := by decide +kernel
theorem dX3_link_180 : decode cX3_link 180 = .ok (.iconst 4, 1) := by decide +kernel
theorem dX3_link_181 : decode cX3_link 181 = .ok (.if_icmp .ne 14, 3) := by decide +kernel
theorem dX3_link_184 : decode cX3_link 184 = .ok (.aload_n 0, 1) := by decide +kernel
theorem dX3_link_185 : decode cX3_link 185 = .ok (.getfield 34, 3) := by decide +kernel
theorem dX3_link_188 : decode cX3_link 188 = .ok (.iload_n 1, 1) := by decide +kernel
theorem dX3_link_189 : decode cX3_link 189 = .ok (.bipush (-2), 2) := by decide +kernel
theorem dX3_link_191 : decode cX3_link 191 = .ok (.iastore, 1) := by decide +kernel
theorem dX3_link_192 : decode cX3_link 192 = .ok (.goto 21, 3) := by decide +kernel
theorem dX3_link_195 : decode cX3_link 195 = .ok (.aload_n 0, 1) := by decide +kernel
theorem dX3_link_196 : decode cX3_link 196 = .ok (.getfield 15, 3) := by decide +kernel
theorem dX3_link_199 : decode cX3_link 199 = .ok (.iload_n 1, 1) := by decide +kernel
theorem dX3_link_200 : decode cX3_link 200 = .ok (.iaload, 1) := by decide +kernel
theorem dX3_link_201 : decode cX3_link 201 = .ok (.iconst 5, 1) := by decide +kernel
theorem dX3_link_202 : decode cX3_link 202 = .ok (.if_icmp .ne 11, 3) := by decide +kernel
theorem dX3_link_205 : decode cX3_link 205 = .ok (.aload_n 0, 1) := by decide +kernel
theorem dX3_link_206 : decode cX3_link 206 = .ok (.getfield 34, 3) := by decide +kernel
theorem dX3_link_209 : decode cX3_link 209 = .ok (.iload_n 1, 1) := by decide +kernel
theorem dX3_link_210 : decode cX3_link 210 = .ok (.bipush (-3), 2) := by decide +kernel
theorem dX3_link_212 : decode cX3_link 212 = .ok (.iastore, 1) := by decide +kernel
theorem dX3_link_213 : decode cX3_link 213 = .ok (.iinc 1 1, 3) := by decide +kernel
theorem dX3_link_216 : decode cX3_link 216 = .ok (.goto (-214), 3) := by decide +kernel
theorem dX3_link_219 : decode cX3_link 219 = .ok (.return_, 1) := by decide +kernel
theorem dX3_pointBehind_0 : decode cX3_pointBehind 0 = .ok (.aload_n 0, 1) := by decide +kernel
theorem dX3_pointBehind_1 : decode cX3_pointBehind 1 = .ok (.getfield 43, 3) := by decide +kernel
theorem dX3_pointBehind_4 : decode cX3_pointBehind 4 = .ok (.iload_n 1, 1) := by decide +kernel
theorem dX3_pointBehind_5 : decode cX3_pointBehind 5 = .ok (.iaload, 1) := by decide +kernel
theorem dX3_pointBehind_6 : decode cX3_pointBehind 6 = .ok (.iconst (-1), 1) := by decide +kernel
theorem dX3_pointBehind_7 : decode cX3_pointBehind 7 = .ok (.if_icmp .eq 10, 3) := by decide +kernel
theorem dX3_pointBehind_10 : decode cX3_pointBehind 10 = .ok (.aload_n 0, 1) := by decide +kernel
theorem dX3_pointBehind_11 : decode cX3_pointBehind 11 = .ok (.getfield 43, 3) := by decide +kernel
theorem dX3_pointBehind_14 : decode cX3_pointBehind 14 = .ok (.iload_n 1, 1) := by decide +kernel
theorem dX3_pointBehind_15 : decode cX3_pointBehind 15 = .ok (.iaload, 1) := by decide +kernel
theorem dX3_pointBehind_16 : decode cX3_pointBehind 16 = .ok (.ireturn, 1) := by decide +kernel
theorem dX3_pointBehind_17 : decode cX3_pointBehind 17 = .ok (.aload_n 0, 1) := by decide +kernel
theorem dX3_pointBehind_18 : decode cX3_pointBehind 18 = .ok (.getfield 40, 3) := by decide +kernel
theorem dX3_pointBehind_21 : decode cX3_pointBehind 21 = .ok (.iload_n 1, 1) := by decide +kernel
theorem dX3_pointBehind_22 : decode cX3_pointBehind 22 = .ok (.iaload, 1) := by decide +kernel
theorem dX3_pointBehind_23 : decode cX3_pointBehind 23 = .ok (.istore_n 2, 1) := by decide +kernel
theorem dX3_pointBehind_24 : decode cX3_pointBehind 24 = .ok (.iload_n 2, 1) := by decide +kernel
theorem dX3_pointBehind_25 : decode cX3_pointBehind 25 = .ok (.iconst (-1), 1) := by decide +kernel
theorem dX3_pointBehind_26 : decode cX3_pointBehind 26 = .ok (.if_icmp .ne 5, 3) := by decide +kernel
theorem dX3_pointBehind_29 : decode cX3_pointBehind 29 = .ok (.iconst (-1), 1) := by decide +kernel
theorem dX3_pointBehind_30 : decode cX3_pointBehind 30 = .ok (.ireturn, 1) := by decide +kernel
theorem dX3_pointBehind_31 : decode cX3_pointBehind 31 = .ok (.aload_n 0, 1) := by decide +kernel
theorem dX3_pointBehind_32 : decode cX3_pointBehind 32 = .ok (.getfield 15, 3) := by decide +kernel
theorem dX3_pointBehind_35 : decode cX3_pointBehind 35 = .ok (.iload_n 2, 1) := by decide +kernel
theorem dX3_pointBehind_36 : decode cX3_pointBehind 36 = .ok (.iaload, 1) := by decide +kernel
theorem dX3_pointBehind_37 : decode cX3_pointBehind 37 = .ok (.iconst 2, 1) := by decide +kernel
theorem dX3_pointBehind_38 : decode cX3_pointBehind 38 = .ok (.if_icmp .ne 7, 3) := by decide +kernel
theorem dX3_pointBehind_41 : decode cX3_pointBehind 41 = .ok (.iload_n 2, 1) := by decide +kernel
theorem dX3_pointBehind_42 : decode cX3_pointBehind 42 = .ok (.goto 9, 3) := by decide +kernel
theorem dX3_pointBehind_45 : decode cX3_pointBehind 45 = .ok (.aload_n 0, 1) := by decide +kernel
theorem dX3_pointBehind_46 : decode cX3_pointBehind 46 = .ok (.getfield 52, 3) := by decide +kernel
theorem dX3_pointBehind_49 : decode cX3_pointBehind 49 = .ok (.iload_n 2, 1) := by decide +kernel
theorem dX3_pointBehind_50 : decode cX3_pointBehind 50 = .ok (.iaload, 1) := by decide +kernel
theorem dX3_pointBehind_51 : decode cX3_pointBehind 51 = .ok (.ireturn, 1) := by decide +kernel
theorem dX3_firstPoint_0 : decode cX3_firstPoint 0 = .ok (.aload_n 0, 1) := by decide +kernel
theorem dX3_firstPoint_1 : decode cX3_firstPoint 1 = .ok (.getfield 63, 3) := by decide +kernel
theorem dX3_firstPoint_4 : decode cX3_firstPoint 4 = .ok (.ifCond .le 12, 3) := by decide +kernel
theorem dX3_firstPoint_7 : decode cX3_firstPoint 7 = .ok (.aload_n 0, 1) := by decide +kernel
theorem dX3_firstPoint_8 : decode cX3_firstPoint 8 = .ok (.getfield 11, 3) := by decide +kernel
theorem dX3_firstPoint_11 : decode cX3_firstPoint 11 = .ok (.iconst 0, 1) := by decide +kernel
theorem dX3_firstPoint_12 : decode cX3_firstPoint 12 = .ok (.iaload, 1) := by decide +kernel
theorem dX3_firstPoint_13 : decode cX3_firstPoint 13 = .ok (.goto 4, 3) := by decide +kernel
theorem dX3_firstPoint_16 : decode cX3_firstPoint 16 = .ok (.iconst (-1), 1) := by decide +kernel
theorem dX3_firstPoint_17 : decode cX3_firstPoint 17 = .ok (.ireturn, 1) := by decide +kernel
theorem dX3_settingsFor_0 : decode cX3_settingsFor 0 = .ok (.iload_n 2, 1) := by decide +kernel
theorem dX3_settingsFor_1 : decode cX3_settingsFor 1 = .ok (.ifCond .ne 12, 3) := by decide +kernel
theorem dX3_settingsFor_4 : decode cX3_settingsFor 4 = .ok (.aload_n 0, 1) := by decide +kernel
theorem dX3_settingsFor_5 : decode cX3_settingsFor 5 = .ok (.getfield 24, 3) := by decide +kernel
theorem dX3_settingsFor_8 : decode cX3_settingsFor 8 = .ok (.iload_n 1, 1) := by decide +kernel
theorem dX3_settingsFor_9 : decode cX3_settingsFor 9 = .ok (.laload, 1) := by decide +kernel
theorem dX3_settingsFor_10 : decode cX3_settingsFor 10 = .ok (.goto 12, 3) := by decide +kernel
theorem dX3_settingsFor_13 : decode cX3_settingsFor 13 = .ok (.aload_n 0, 1) := by decide +kernel
theorem dX3_settingsFor_14 : decode cX3_settingsFor 14 = .ok (.getfield 24, 3) := by decide +kernel
theorem dX3_settingsFor_17 : decode cX3_settingsFor 17 = .ok (.iload_n 1, 1) := by decide +kernel
theorem dX3_settingsFor_18 : decode cX3_settingsFor 18 = .ok (.laload, 1) := by decide +kernel
theorem dX3_settingsFor_19 : decode cX3_settingsFor 19 = .ok (.bipush 32, 2) := by decide +kernel
theorem dX3_settingsFor_21 : decode cX3_settingsFor 21 = .ok (.lushr, 1) := by decide +kernel
theorem dX3_settingsFor_22 : decode cX3_settingsFor 22 = .ok (.l2i, 1) := by decide +kernel
theorem dX3_settingsFor_23 : decode cX3_settingsFor 23 = .ok (.ireturn, 1) := by decide +kernel
theorem dX3_pointAfter_0 : decode cX3_pointAfter 0 = .ok (.iload_n 2, 1) := by decide +kernel
theorem dX3_pointAfter_1 : decode cX3_pointAfter 1 = .ok (.ifCond .ne 12, 3) := by decide +kernel
theorem dX3_pointAfter_4 : decode cX3_pointAfter 4 = .ok (.aload_n 0, 1) := by decide +kernel
theorem dX3_pointAfter_5 : decode cX3_pointAfter 5 = .ok (.getfield 34, 3) := by decide +kernel
theorem dX3_pointAfter_8 : decode cX3_pointAfter 8 = .ok (.iload_n 1, 1) := by decide +kernel
theorem dX3_pointAfter_9 : decode cX3_pointAfter 9 = .ok (.iaload, 1) := by decide +kernel
theorem dX3_pointAfter_10 : decode cX3_pointAfter 10 = .ok (.goto 9, 3) := by decide +kernel
theorem dX3_pointAfter_13 : decode cX3_pointAfter 13 = .ok (.aload_n 0, 1) := by decide +kernel
theorem dX3_pointAfter_14 : decode cX3_pointAfter 14 = .ok (.getfield 37, 3) := by decide +kernel
theorem dX3_pointAfter_17 : decode cX3_pointAfter 17 = .ok (.iload_n 1, 1) := by decide +kernel
theorem dX3_pointAfter_18 : decode cX3_pointAfter 18 = .ok (.iaload, 1) := by decide +kernel
theorem dX3_pointAfter_19 : decode cX3_pointAfter 19 = .ok (.ireturn, 1) := by decide +kernel
theorem dX3_settingAfter_0 : decode cX3_settingAfter 0 = .ok (.aload_n 0, 1) := by decide +kernel
theorem dX3_settingAfter_1 : decode cX3_settingAfter 1 = .ok (.getfield 15, 3) := by decide +kernel
theorem dX3_settingAfter_4 : decode cX3_settingAfter 4 = .ok (.iload_n 1, 1) := by decide +kernel
theorem dX3_settingAfter_5 : decode cX3_settingAfter 5 = .ok (.iaload, 1) := by decide +kernel
theorem dX3_settingAfter_6 : decode cX3_settingAfter 6 = .ok (.ifCond .eq 5, 3) := by decide +kernel
theorem dX3_settingAfter_9 : decode cX3_settingAfter 9 = .ok (.iload_n 2, 1) := by decide +kernel
theorem dX3_settingAfter_10 : decode cX3_settingAfter 10 = .ok (.ireturn, 1) := by decide +kernel
theorem dX3_settingAfter_11 : decode cX3_settingAfter 11 = .ok (.iconst 1, 1) := by decide +kernel
theorem dX3_settingAfter_12 : decode cX3_settingAfter 12 = .ok (.aload_n 0, 1) := by decide +kernel
theorem dX3_settingAfter_13 : decode cX3_settingAfter 13 = .ok (.getfield 28, 3) := by decide +kernel
theorem dX3_settingAfter_16 : decode cX3_settingAfter 16 = .ok (.iload_n 1, 1) := by decide +kernel
theorem dX3_settingAfter_17 : decode cX3_settingAfter 17 = .ok (.iaload, 1) := by decide +kernel
theorem dX3_settingAfter_18 : decode cX3_settingAfter 18 = .ok (.ishl, 1) := by decide +kernel
theorem dX3_settingAfter_19 : decode cX3_settingAfter 19 = .ok (.istore 4, 2) := by decide +kernel
theorem dX3_settingAfter_21 : decode cX3_settingAfter 21 = .ok (.iload_n 3, 1) := by decide +kernel
theorem dX3_settingAfter_22 : decode cX3_settingAfter 22 = .ok (.ifCond .ne 12, 3) := by decide +kernel
theorem dX3_settingAfter_25 : decode cX3_settingAfter 25 = .ok (.iload_n 2, 1) := by decide +kernel
theorem dX3_settingAfter_26 : decode cX3_settingAfter 26 = .ok (.iload 4, 2) := by decide +kernel
theorem dX3_settingAfter_28 : decode cX3_settingAfter 28 = .ok (.iconst (-1), 1) := by decide +kernel
theorem dX3_settingAfter_29 : decode cX3_settingAfter 29 = .ok (.ixor, 1) := by decide +kernel
theorem dX3_settingAfter_30 : decode cX3_settingAfter 30 = .ok (.iand, 1) := by decide +kernel
theorem dX3_settingAfter_31 : decode cX3_settingAfter 31 = .ok (.goto 7, 3) := by decide +kernel
theorem dX3_settingAfter_34 : decode cX3_settingAfter 34 = .ok (.iload_n 2, 1) := by decide +kernel
theorem dX3_settingAfter_35 : decode cX3_settingAfter 35 = .ok (.iload 4, 2) := by decide +kernel
theorem dX3_settingAfter_37 : decode cX3_settingAfter 37 = .ok (.ior, 1) := by decide +kernel
theorem dX3_settingAfter_38 : decode cX3_settingAfter 38 = .ok (.ireturn, 1) := by decide +kernel
theorem dX3_takesValue_0 : decode cX3_takesValue 0 = .ok (.aload_n 0, 1) := by decide +kernel
theorem dX3_takesValue_1 : decode cX3_takesValue 1 = .ok (.getfield 15, 3) := by decide +kernel
theorem dX3_takesValue_4 : decode cX3_takesValue 4 = .ok (.iload_n 1, 1) := by decide +kernel
theorem dX3_takesValue_5 : decode cX3_takesValue 5 = .ok (.iaload, 1) := by decide +kernel
theorem dX3_takesValue_6 : decode cX3_takesValue 6 = .ok (.iconst 3, 1) := by decide +kernel
theorem dX3_takesValue_7 : decode cX3_takesValue 7 = .ok (.if_icmp .eq 17, 3) := by decide +kernel
theorem dX3_takesValue_10 : decode cX3_takesValue 10 = .ok (.aload_n 0, 1) := by decide +kernel
theorem dX3_takesValue_11 : decode cX3_takesValue 11 = .ok (.getfield 15, 3) := by decide +kernel
theorem dX3_takesValue_14 : decode cX3_takesValue 14 = .ok (.iload_n 1, 1) := by decide +kernel
theorem dX3_takesValue_15 : decode cX3_takesValue 15 = .ok (.iaload, 1) := by decide +kernel
theorem dX3_takesValue_16 : decode cX3_takesValue 16 = .ok (.iconst 5, 1) := by decide +kernel
theorem dX3_takesValue_17 : decode cX3_takesValue 17 = .ok (.if_icmp .gt 7, 3) := by decide +kernel
theorem dX3_takesValue_20 : decode cX3_takesValue 20 = .ok (.iconst 1, 1) := by decide +kernel
theorem dX3_takesValue_21 : decode cX3_takesValue 21 = .ok (.goto 4, 3) := by decide +kernel
theorem dX3_takesValue_24 : decode cX3_takesValue 24 = .ok (.iconst 0, 1) := by decide +kernel
theorem dX3_takesValue_25 : decode cX3_takesValue 25 = .ok (.ireturn, 1) := by decide +kernel
theorem dX4_init_0 : decode cX4_init 0 = .ok (.aload_n 0, 1) := by decide +kernel
theorem dX4_init_1 : decode cX4_init 1 = .ok (.invokespecial 3, 3) := by decide +kernel
theorem dX4_init_4 : decode cX4_init 4 = .ok (.aload_n 0, 1) := by decide +kernel
theorem dX4_init_5 : decode cX4_init 5 = .ok (.sipush 600, 3) := by decide +kernel
theorem dX4_init_8 : decode cX4_init 8 = .ok (.newarray .byte, 2) := by decide +kernel
theorem dX4_init_10 : decode cX4_init 10 = .ok (.putfield 9, 3) := by decide +kernel
theorem dX4_init_13 : decode cX4_init 13 = .ok (.return_, 1) := by decide +kernel
theorem dX4_addBytes_0 : decode cX4_addBytes 0 = .ok (.aload_n 0, 1) := by decide +kernel
theorem dX4_addBytes_1 : decode cX4_addBytes 1 = .ok (.getfield 15, 3) := by decide +kernel
theorem dX4_addBytes_4 : decode cX4_addBytes 4 = .ok (.iload_n 3, 1) := by decide +kernel
theorem dX4_addBytes_5 : decode cX4_addBytes 5 = .ok (.iadd, 1) := by decide +kernel
theorem dX4_addBytes_6 : decode cX4_addBytes 6 = .ok (.sipush 600, 3) := by decide +kernel
theorem dX4_addBytes_9 : decode cX4_addBytes 9 = .ok (.if_icmp .le 6, 3) := by decide +kernel
theorem dX4_addBytes_12 : decode cX4_addBytes 12 = .ok (.bipush (-3), 2) := by decide +kernel
theorem dX4_addBytes_14 : decode cX4_addBytes 14 = .ok (.ireturn, 1) := by decide +kernel
theorem dX4_addBytes_15 : decode cX4_addBytes 15 = .ok (.iconst 0, 1) := by decide +kernel
theorem dX4_addBytes_16 : decode cX4_addBytes 16 = .ok (.istore 4, 2) := by decide +kernel
theorem dX4_addBytes_18 : decode cX4_addBytes 18 = .ok (.iload 4, 2) := by decide +kernel
theorem dX4_addBytes_20 : decode cX4_addBytes 20 = .ok (.iload_n 3, 1) := by decide +kernel
theorem dX4_addBytes_21 : decode cX4_addBytes 21 = .ok (.if_icmp .ge 37, 3) := by decide +kernel
theorem dX4_addBytes_24 : decode cX4_addBytes 24 = .ok (.aload_n 0, 1) := by decide +kernel
theorem dX4_addBytes_25 : decode cX4_addBytes 25 = .ok (.getfield 9, 3) := by decide +kernel
theorem dX4_addBytes_28 : decode cX4_addBytes 28 = .ok (.aload_n 0, 1) := by decide +kernel
theorem dX4_addBytes_29 : decode cX4_addBytes 29 = .ok (.getfield 15, 3) := by decide +kernel
theorem dX4_addBytes_32 : decode cX4_addBytes 32 = .ok (.lload_n 1, 1) := by decide +kernel
theorem dX4_addBytes_33 : decode cX4_addBytes 33 = .ok (.bipush 8, 2) := by decide +kernel
theorem dX4_addBytes_35 : decode cX4_addBytes 35 = .ok (.iload 4, 2) := by decide +kernel
theorem dX4_addBytes_37 : decode cX4_addBytes 37 = .ok (.imul, 1) := by decide +kernel
theorem dX4_addBytes_38 : decode cX4_addBytes 38 = .ok (.lushr, 1) := by decide +kernel
theorem dX4_addBytes_39 : decode cX4_addBytes 39 = .ok (.l2i, 1) := by decide +kernel
theorem dX4_addBytes_40 : decode cX4_addBytes 40 = .ok (.i2b, 1) := by decide +kernel
theorem dX4_addBytes_41 : decode cX4_addBytes 41 = .ok (.bastore, 1) := by decide +kernel
theorem dX4_addBytes_42 : decode cX4_addBytes 42 = .ok (.aload_n 0, 1) := by decide +kernel
theorem dX4_addBytes_43 : decode cX4_addBytes 43 = .ok (.dup, 1) := by decide +kernel
theorem dX4_addBytes_44 : decode cX4_addBytes 44 = .ok (.getfield 15, 3) := by decide +kernel
theorem dX4_addBytes_47 : decode cX4_addBytes 47 = .ok (.iconst 1, 1) := by decide +kernel
theorem dX4_addBytes_48 : decode cX4_addBytes 48 = .ok (.iadd, 1) := by decide +kernel
theorem dX4_addBytes_49 : decode cX4_addBytes 49 = .ok (.putfield 15, 3) := by decide +kernel
theorem dX4_addBytes_52 : decode cX4_addBytes 52 = .ok (.iinc 4 1, 3) := by decide +kernel
theorem dX4_addBytes_55 : decode cX4_addBytes 55 = .ok (.goto (-37), 3) := by decide +kernel
theorem dX4_addBytes_58 : decode cX4_addBytes 58 = .ok (.aload_n 0, 1) := by decide +kernel
theorem dX4_addBytes_59 : decode cX4_addBytes 59 = .ok (.getfield 15, 3) := by decide +kernel
theorem dX4_addBytes_62 : decode cX4_addBytes 62 = .ok (.ireturn, 1) := by decide +kernel
theorem dX4_begin_0 : decode cX4_begin 0 = .ok (.aload_n 0, 1) := by decide +kernel
theorem dX4_begin_1 : decode cX4_begin 1 = .ok (.iconst 0, 1) := by decide +kernel
theorem dX4_begin_2 : decode cX4_begin 2 = .ok (.putfield 19, 3) := by decide +kernel
theorem dX4_begin_5 : decode cX4_begin 5 = .ok (.aload_n 0, 1) := by decide +kernel
theorem dX4_begin_6 : decode cX4_begin 6 = .ok (.iconst 0, 1) := by decide +kernel
theorem dX4_begin_7 : decode cX4_begin 7 = .ok (.putfield 22, 3) := by decide +kernel
theorem dX4_begin_10 : decode cX4_begin 10 = .ok (.aload_n 0, 1) := by decide +kernel
theorem dX4_begin_11 : decode cX4_begin 11 = .ok (.invokevirtual 25, 3) := by decide +kernel
theorem dX4_begin_14 : decode cX4_begin 14 = .ok (.return_, 1) := by decide +kernel
theorem dX4_emptyText_0 : decode cX4_emptyText 0 = .ok (.aload_n 0, 1) := by decide +kernel
theorem dX4_emptyText_1 : decode cX4_emptyText 1 = .ok (.iconst 0, 1) := by decide +kernel
theorem dX4_emptyText_2 : decode cX4_emptyText 2 = .ok (.putfield 15, 3) := by decide +kernel
theorem dX4_emptyText_5 : decode cX4_emptyText 5 = .ok (.return_, 1) := by decide +kernel
theorem dX4_fail_0 : decode cX4_fail 0 = .ok (.aload_n 0, 1) := by decide +kernel
theorem dX4_fail_1 : decode cX4_fail 1 = .ok (.getfield 22, 3) := by decide +kernel
theorem dX4_fail_4 : decode cX4_fail 4 = .ok (.ifCond .ne 13, 3) := by decide +kernel
theorem dX4_fail_7 : decode cX4_fail 7 = .ok (.aload_n 0, 1) := by decide +kernel
theorem dX4_fail_8 : decode cX4_fail 8 = .ok (.iload_n 1, 1) := by decide +kernel
theorem dX4_fail_9 : decode cX4_fail 9 = .ok (.putfield 22, 3) := by decide +kernel
theorem dX4_fail_12 : decode cX4_fail 12 = .ok (.aload_n 0, 1) := by decide +kernel
theorem dX4_fail_13 : decode cX4_fail 13 = .ok (.iload_n 2, 1) := by decide +kernel
theorem dX4_fail_14 : decode cX4_fail 14 = .ok (.putfield 28, 3) := by decide +kernel
theorem dX4_fail_17 : decode cX4_fail 17 = .ok (.aload_n 0, 1) := by decide +kernel
theorem dX4_fail_18 : decode cX4_fail 18 = .ok (.sipush 257, 3) := by decide +kernel
theorem dX4_fail_21 : decode cX4_fail 21 = .ok (.putfield 31, 3) := by decide +kernel
theorem dX4_fail_24 : decode cX4_fail 24 = .ok (.return_, 1) := by decide +kernel
theorem dX4_failHere_0 : decode cX4_failHere 0 = .ok (.aload_n 0, 1) := by decide +kernel
theorem dX4_failHere_1 : decode cX4_failHere 1 = .ok (.iload_n 1, 1) := by decide +kernel
theorem dX4_failHere_2 : decode cX4_failHere 2 = .ok (.aload_n 0, 1) := by decide +kernel
theorem dX4_failHere_3 : decode cX4_failHere 3 = .ok (.getfield 34, 3) := by decide +kernel
theorem dX4_failHere_6 : decode cX4_failHere 6 = .ok (.invokevirtual 37, 3) := by decide +kernel
theorem dX4_failHere_9 : decode cX4_failHere 9 = .ok (.return_, 1) := by decide +kernel
theorem dX4_skipToken_0 : decode cX4_skipToken 0 = .ok (.aload_n 0, 1) := by decide +kernel
theorem dX4_skipToken_1 : decode cX4_skipToken 1 = .ok (.getfield 31, 3) := by decide +kernel
theorem dX4_skipToken_4 : decode cX4_skipToken 4 = .ok (.iload_n 1, 1) := by decide +kernel
theorem dX4_skipToken_5 : decode cX4_skipToken 5 = .ok (.if_icmp .eq 10, 3) := by decide +kernel
theorem dX4_skipToken_8 : decode cX4_skipToken 8 = .ok (.aload_n 0, 1) := by decide +kernel
theorem dX4_skipToken_9 : decode cX4_skipToken 9 = .ok (.iconst 2, 1) := by decide +kernel
theorem dX4_skipToken_10 : decode cX4_skipToken 10 = .ok (.invokevirtual 41, 3) := by decide +kernel
theorem dX4_skipToken_13 : decode cX4_skipToken 13 = .ok (.iconst 0, 1) := by decide +kernel
theorem dX4_skipToken_14 : decode cX4_skipToken 14 = .ok (.ireturn, 1) := by decide +kernel
theorem dX4_skipToken_15 : decode cX4_skipToken 15 = .ok (.aload_n 0, 1) := by decide +kernel
theorem dX4_skipToken_16 : decode cX4_skipToken 16 = .ok (.invokevirtual 25, 3) := by decide +kernel
theorem dX4_skipToken_19 : decode cX4_skipToken 19 = .ok (.iconst 1, 1) := by decide +kernel
theorem dX4_skipToken_20 : decode cX4_skipToken 20 = .ok (.ireturn, 1) := by decide +kernel
theorem dX4_advance_0 : decode cX4_advance 0 = .ok (.aload_n 0, 1) := by decide +kernel
theorem dX4_advance_1 : decode cX4_advance 1 = .ok (.getfield 22, 3) := by decide +kernel
theorem dX4_advance_4 : decode cX4_advance 4 = .ok (.ifCond .eq 4, 3) := by decide +kernel
theorem dX4_advance_7 : decode cX4_advance 7 = .ok (.return_, 1) := by decide +kernel
theorem dX4_advance_8 : decode cX4_advance 8 = .ok (.aload_n 0, 1) := by decide +kernel
theorem dX4_advance_9 : decode cX4_advance 9 = .ok (.getfield 19, 3) := by decide +kernel
theorem dX4_advance_12 : decode cX4_advance 12 = .ok (.aload_n 0, 1) := by decide +kernel
theorem dX4_advance_13 : decode cX4_advance 13 = .ok (.getfield 15, 3) := by decide +kernel
theorem dX4_advance_16 : decode cX4_advance 16 = .ok (.if_icmp .ge 44, 3) := by decide +kernel
theorem dX4_advance_19 : decode cX4_advance 19 = .ok (.aload_n 0, 1) := by decide +kernel
theorem dX4_advance_20 : decode cX4_advance 20 = .ok (.getfield 9, 3) := by decide +kernel
theorem dX4_advance_23 : decode cX4_advance 23 = .ok (.aload_n 0, 1) := by decide +kernel
theorem dX4_advance_24 : decode cX4_advance 24 = .ok (.getfield 19, 3) := by decide +kernel
theorem dX4_advance_27 : decode cX4_advance 27 = .ok (.baload, 1) := by decide +kernel
theorem dX4_advance_28 : decode cX4_advance 28 = .ok (.bipush 32, 2) := by decide +kernel
theorem dX4_advance_30 : decode cX4_advance 30 = .ok (.if_icmp .eq 17, 3) := by decide +kernel
theorem dX4_advance_33 : decode cX4_advance 33 = .ok (.aload_n 0, 1) := by decide +kernel
theorem dX4_advance_34 : decode cX4_advance 34 = .ok (.getfield 9, 3) := by decide +kernel
theorem dX4_advance_37 : decode cX4_advance 37 = .ok (.aload_n 0, 1) := by decide +kernel
theorem dX4_advance_38 : decode cX4_advance 38 = .ok (.getfield 19, 3) := by decide +kernel
theorem dX4_advance_41 : decode cX4_advance 41 = .ok (.baload, 1) := by decide +kernel
theorem dX4_advance_42 : decode cX4_advance 42 = .ok (.bipush 10, 2) := by decide +kernel
theorem dX4_advance_44 : decode cX4_advance 44 = .ok (.if_icmp .ne 16, 3) := by decide +kernel
theorem dX4_advance_47 : decode cX4_advance 47 = .ok (.aload_n 0, 1) := by decide +kernel
theorem dX4_advance_48 : decode cX4_advance 48 = .ok (.dup, 1) := by decide +kernel
theorem dX4_advance_49 : decode cX4_advance 49 = .ok (.getfield 19, 3) := by decide +kernel
theorem dX4_advance_52 : decode cX4_advance 52 = .ok (.iconst 1, 1) := by decide +kernel
theorem dX4_advance_53 : decode cX4_advance 53 = .ok (.iadd, 1) := by decide +kernel
theorem dX4_advance_54 : decode cX4_advance 54 = .ok (.putfield 19, 3) := by decide +kernel
theorem dX4_advance_57 : decode cX4_advance 57 = .ok (.goto (-49), 3) := by decide +kernel
theorem dX4_advance_60 : decode cX4_advance 60 = .ok (.aload_n 0, 1) := by decide +kernel
theorem dX4_advance_61 : decode cX4_advance 61 = .ok (.aload_n 0, 1) := by decide +kernel
theorem dX4_advance_62 : decode cX4_advance 62 = .ok (.getfield 19, 3) := by decide +kernel
theorem dX4_advance_65 : decode cX4_advance 65 = .ok (.putfield 34, 3) := by decide +kernel
theorem dX4_advance_68 : decode cX4_advance 68 = .ok (.aload_n 0, 1) := by decide +kernel
theorem dX4_advance_69 : decode cX4_advance 69 = .ok (.getfield 19, 3) := by decide +kernel
theorem dX4_advance_72 : decode cX4_advance 72 = .ok (.aload_n 0, 1) := by decide +kernel
theorem dX4_advance_73 : decode cX4_advance 73 = .ok (.getfield 15, 3) := by decide +kernel
theorem dX4_advance_76 : decode cX4_advance 76 = .ok (.if_icmp .lt 11, 3) := by decide +kernel
theorem dX4_advance_79 : decode cX4_advance 79 = .ok (.aload_n 0, 1) := by decide +kernel
theorem dX4_advance_80 : decode cX4_advance 80 = .ok (.sipush 256, 3) := by decide +kernel
theorem dX4_advance_83 : decode cX4_advance 83 = .ok (.putfield 31, 3) := by decide +kernel
theorem dX4_advance_86 : decode cX4_advance 86 = .ok (.return_, 1) := by decide +kernel
theorem dX4_advance_87 : decode cX4_advance 87 = .ok (.aload_n 0, 1) := by decide +kernel
theorem dX4_advance_88 : decode cX4_advance 88 = .ok (.getfield 9, 3) := by decide +kernel
theorem dX4_advance_91 : decode cX4_advance 91 = .ok (.aload_n 0, 1) := by decide +kernel
theorem dX4_advance_92 : decode cX4_advance 92 = .ok (.getfield 19, 3) := by decide +kernel
