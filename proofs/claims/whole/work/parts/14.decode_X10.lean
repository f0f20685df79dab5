theorem dX6_init_0 : decode cX6_init 0 = .ok (.aload_n 0, 1) := by decide +kernel
theorem dX6_init_1 : decode cX6_init 1 = .ok (.invokespecial 3, 3) := by decide +kernel
theorem dX6_init_4 : decode cX6_init 4 = .ok (.aload_n 0, 1) := by decide +kernel
theorem dX6_init_5 : decode cX6_init 5 = .ok (.bipush 48, 2) := by decide +kernel
theorem dX6_init_7 : decode cX6_init 7 = .ok (.newarray .int, 2) := by decide +kernel
theorem dX6_init_9 : decode cX6_init 9 = .ok (.putfield 9, 3) := by decide +kernel
theorem dX6_init_12 : decode cX6_init 12 = .ok (.aload_n 0, 1) := by decide +kernel
theorem dX6_init_13 : decode cX6_init 13 = .ok (.bipush 48, 2) := by decide +kernel
theorem dX6_init_15 : decode cX6_init 15 = .ok (.newarray .int, 2) := by decide +kernel
theorem dX6_init_17 : decode cX6_init 17 = .ok (.putfield 15, 3) := by decide +kernel
theorem dX6_init_20 : decode cX6_init 20 = .ok (.aload_n 0, 1) := by decide +kernel
theorem dX6_init_21 : decode cX6_init 21 = .ok (.bipush 48, 2) := by decide +kernel
theorem dX6_init_23 : decode cX6_init 23 = .ok (.newarray .int, 2) := by decide +kernel
theorem dX6_init_25 : decode cX6_init 25 = .ok (.putfield 18, 3) := by decide +kernel
theorem dX6_init_28 : decode cX6_init 28 = .ok (.aload_n 0, 1) := by decide +kernel
theorem dX6_init_29 : decode cX6_init 29 = .ok (.bipush 48, 2) := by decide +kernel
theorem dX6_init_31 : decode cX6_init 31 = .ok (.newarray .int, 2) := by decide +kernel
theorem dX6_init_33 : decode cX6_init 33 = .ok (.putfield 21, 3) := by decide +kernel
theorem dX6_init_36 : decode cX6_init 36 = .ok (.aload_n 0, 1) := by decide +kernel
theorem dX6_init_37 : decode cX6_init 37 = .ok (.bipush 48, 2) := by decide +kernel
theorem dX6_init_39 : decode cX6_init 39 = .ok (.newarray .int, 2) := by decide +kernel
theorem dX6_init_41 : decode cX6_init 41 = .ok (.putfield 24, 3) := by decide +kernel
theorem dX6_init_44 : decode cX6_init 44 = .ok (.aload_n 0, 1) := by decide +kernel
theorem dX6_init_45 : decode cX6_init 45 = .ok (.bipush 48, 2) := by decide +kernel
theorem dX6_init_47 : decode cX6_init 47 = .ok (.newarray .int, 2) := by decide +kernel
theorem dX6_init_49 : decode cX6_init 49 = .ok (.putfield 27, 3) := by decide +kernel
theorem dX6_init_52 : decode cX6_init 52 = .ok (.aload_n 0, 1) := by decide +kernel
theorem dX6_init_53 : decode cX6_init 53 = .ok (.sipush 192, 3) := by decide +kernel
theorem dX6_init_56 : decode cX6_init 56 = .ok (.newarray .int, 2) := by decide +kernel
theorem dX6_init_58 : decode cX6_init 58 = .ok (.putfield 30, 3) := by decide +kernel
theorem dX6_init_61 : decode cX6_init 61 = .ok (.aload_n 0, 1) := by decide +kernel
theorem dX6_init_62 : decode cX6_init 62 = .ok (.bipush 30, 2) := by decide +kernel
theorem dX6_init_64 : decode cX6_init 64 = .ok (.newarray .int, 2) := by decide +kernel
theorem dX6_init_66 : decode cX6_init 66 = .ok (.putfield 33, 3) := by decide +kernel
theorem dX6_init_69 : decode cX6_init 69 = .ok (.return_, 1) := by decide +kernel
theorem dX6_addRule_0 : decode cX6_addRule 0 = .ok (.aload_n 0, 1) := by decide +kernel
theorem dX6_addRule_1 : decode cX6_addRule 1 = .ok (.getfield 36, 3) := by decide +kernel
theorem dX6_addRule_4 : decode cX6_addRule 4 = .ok (.bipush 48, 2) := by decide +kernel
theorem dX6_addRule_6 : decode cX6_addRule 6 = .ok (.if_icmp .lt 6, 3) := by decide +kernel
theorem dX6_addRule_9 : decode cX6_addRule 9 = .ok (.bipush (-3), 2) := by decide +kernel
theorem dX6_addRule_11 : decode cX6_addRule 11 = .ok (.ireturn, 1) := by decide +kernel
theorem dX6_addRule_12 : decode cX6_addRule 12 = .ok (.aload_n 0, 1) := by decide +kernel
theorem dX6_addRule_13 : decode cX6_addRule 13 = .ok (.getfield 9, 3) := by decide +kernel
theorem dX6_addRule_16 : decode cX6_addRule 16 = .ok (.aload_n 0, 1) := by decide +kernel
theorem dX6_addRule_17 : decode cX6_addRule 17 = .ok (.getfield 36, 3) := by decide +kernel
theorem dX6_addRule_20 : decode cX6_addRule 20 = .ok (.iload_n 1, 1) := by decide +kernel
theorem dX6_addRule_21 : decode cX6_addRule 21 = .ok (.iastore, 1) := by decide +kernel
theorem dX6_addRule_22 : decode cX6_addRule 22 = .ok (.aload_n 0, 1) := by decide +kernel
theorem dX6_addRule_23 : decode cX6_addRule 23 = .ok (.getfield 15, 3) := by decide +kernel
theorem dX6_addRule_26 : decode cX6_addRule 26 = .ok (.aload_n 0, 1) := by decide +kernel
theorem dX6_addRule_27 : decode cX6_addRule 27 = .ok (.getfield 36, 3) := by decide +kernel
theorem dX6_addRule_30 : decode cX6_addRule 30 = .ok (.iload_n 2, 1) := by decide +kernel
theorem dX6_addRule_31 : decode cX6_addRule 31 = .ok (.iastore, 1) := by decide +kernel
theorem dX6_addRule_32 : decode cX6_addRule 32 = .ok (.aload_n 0, 1) := by decide +kernel
theorem dX6_addRule_33 : decode cX6_addRule 33 = .ok (.getfield 18, 3) := by decide +kernel
theorem dX6_addRule_36 : decode cX6_addRule 36 = .ok (.aload_n 0, 1) := by decide +kernel
theorem dX6_addRule_37 : decode cX6_addRule 37 = .ok (.getfield 36, 3) := by decide +kernel
theorem dX6_addRule_40 : decode cX6_addRule 40 = .ok (.iload_n 3, 1) := by decide +kernel
theorem dX6_addRule_41 : decode cX6_addRule 41 = .ok (.iastore, 1) := by decide +kernel
theorem dX6_addRule_42 : decode cX6_addRule 42 = .ok (.aload_n 0, 1) := by decide +kernel
theorem dX6_addRule_43 : decode cX6_addRule 43 = .ok (.getfield 21, 3) := by decide +kernel
theorem dX6_addRule_46 : decode cX6_addRule 46 = .ok (.aload_n 0, 1) := by decide +kernel
theorem dX6_addRule_47 : decode cX6_addRule 47 = .ok (.getfield 36, 3) := by decide +kernel
theorem dX6_addRule_50 : decode cX6_addRule 50 = .ok (.iload 4, 2) := by decide +kernel
theorem dX6_addRule_52 : decode cX6_addRule 52 = .ok (.iastore, 1) := by decide +kernel
theorem dX6_addRule_53 : decode cX6_addRule 53 = .ok (.aload_n 0, 1) := by decide +kernel
theorem dX6_addRule_54 : decode cX6_addRule 54 = .ok (.getfield 24, 3) := by decide +kernel
theorem dX6_addRule_57 : decode cX6_addRule 57 = .ok (.aload_n 0, 1) := by decide +kernel
theorem dX6_addRule_58 : decode cX6_addRule 58 = .ok (.getfield 36, 3) := by decide +kernel
theorem dX6_addRule_61 : decode cX6_addRule 61 = .ok (.iload 4, 2) := by decide +kernel
theorem dX6_addRule_63 : decode cX6_addRule 63 = .ok (.iconst 1, 1) := by decide +kernel
theorem dX6_addRule_64 : decode cX6_addRule 64 = .ok (.if_icmp .lt 8, 3) := by decide +kernel
theorem dX6_addRule_67 : decode cX6_addRule 67 = .ok (.iload 5, 2) := by decide +kernel
theorem dX6_addRule_69 : decode cX6_addRule 69 = .ok (.goto 4, 3) := by decide +kernel
theorem dX6_addRule_72 : decode cX6_addRule 72 = .ok (.iconst 0, 1) := by decide +kernel
theorem dX6_addRule_73 : decode cX6_addRule 73 = .ok (.iastore, 1) := by decide +kernel
theorem dX6_addRule_74 : decode cX6_addRule 74 = .ok (.aload_n 0, 1) := by decide +kernel
theorem dX6_addRule_75 : decode cX6_addRule 75 = .ok (.getfield 27, 3) := by decide +kernel
theorem dX6_addRule_78 : decode cX6_addRule 78 = .ok (.aload_n 0, 1) := by decide +kernel
theorem dX6_addRule_79 : decode cX6_addRule 79 = .ok (.getfield 36, 3) := by decide +kernel
theorem dX6_addRule_82 : decode cX6_addRule 82 = .ok (.iload 4, 2) := by decide +kernel
theorem dX6_addRule_84 : decode cX6_addRule 84 = .ok (.iconst 2, 1) := by decide +kernel
theorem dX6_addRule_85 : decode cX6_addRule 85 = .ok (.if_icmp .ne 8, 3) := by decide +kernel
theorem dX6_addRule_88 : decode cX6_addRule 88 = .ok (.iload 6, 2) := by decide +kernel
theorem dX6_addRule_90 : decode cX6_addRule 90 = .ok (.goto 4, 3) := by decide +kernel
theorem dX6_addRule_93 : decode cX6_addRule 93 = .ok (.iconst 0, 1) := by decide +kernel
theorem dX6_addRule_94 : decode cX6_addRule 94 = .ok (.iastore, 1) := by decide +kernel
theorem dX6_addRule_95 : decode cX6_addRule 95 = .ok (.aload_n 0, 1) := by decide +kernel
theorem dX6_addRule_96 : decode cX6_addRule 96 = .ok (.dup, 1) := by decide +kernel
theorem dX6_addRule_97 : decode cX6_addRule 97 = .ok (.getfield 40, 3) := by decide +kernel
theorem dX6_addRule_100 : decode cX6_addRule 100 = .ok (.iconst 1, 1) := by decide +kernel
theorem dX6_addRule_101 : decode cX6_addRule 101 = .ok (.iadd, 1) := by decide +kernel
theorem dX6_addRule_102 : decode cX6_addRule 102 = .ok (.putfield 40, 3) := by decide +kernel
theorem dX6_addRule_105 : decode cX6_addRule 105 = .ok (.aload_n 0, 1) := by decide +kernel
theorem dX6_addRule_106 : decode cX6_addRule 106 = .ok (.dup, 1) := by decide +kernel
theorem dX6_addRule_107 : decode cX6_addRule 107 = .ok (.getfield 36, 3) := by decide +kernel
theorem dX6_addRule_110 : decode cX6_addRule 110 = .ok (.iconst 1, 1) := by decide +kernel
theorem dX6_addRule_111 : decode cX6_addRule 111 = .ok (.iadd, 1) := by decide +kernel
theorem dX6_addRule_112 : decode cX6_addRule 112 = .ok (.putfield 36, 3) := by decide +kernel
theorem dX6_addRule_115 : decode cX6_addRule 115 = .ok (.aload_n 0, 1) := by decide +kernel
theorem dX6_addRule_116 : decode cX6_addRule 116 = .ok (.getfield 36, 3) := by decide +kernel
theorem dX6_addRule_119 : decode cX6_addRule 119 = .ok (.iconst 1, 1) := by decide +kernel
theorem dX6_addRule_120 : decode cX6_addRule 120 = .ok (.isub, 1) := by decide +kernel
theorem dX6_addRule_121 : decode cX6_addRule 121 = .ok (.ireturn, 1) := by decide +kernel
theorem dX6_addArc_0 : decode cX6_addArc 0 = .ok (.iload_n 1, 1) := by decide +kernel
theorem dX6_addArc_1 : decode cX6_addArc 1 = .ok (.bipush 12, 2) := by decide +kernel
theorem dX6_addArc_3 : decode cX6_addArc 3 = .ok (.imul, 1) := by decide +kernel
theorem dX6_addArc_4 : decode cX6_addArc 4 = .ok (.iload_n 2, 1) := by decide +kernel
theorem dX6_addArc_5 : decode cX6_addArc 5 = .ok (.iadd, 1) := by decide +kernel
theorem dX6_addArc_6 : decode cX6_addArc 6 = .ok (.istore 4, 2) := by decide +kernel
theorem dX6_addArc_8 : decode cX6_addArc 8 = .ok (.aload_n 0, 1) := by decide +kernel
theorem dX6_addArc_9 : decode cX6_addArc 9 = .ok (.getfield 30, 3) := by decide +kernel
theorem dX6_addArc_12 : decode cX6_addArc 12 = .ok (.iload 4, 2) := by decide +kernel
theorem dX6_addArc_14 : decode cX6_addArc 14 = .ok (.iaload, 1) := by decide +kernel
theorem dX6_addArc_15 : decode cX6_addArc 15 = .ok (.iload_n 3, 1) := by decide +kernel
theorem dX6_addArc_16 : decode cX6_addArc 16 = .ok (.iushr, 1) := by decide +kernel
theorem dX6_addArc_17 : decode cX6_addArc 17 = .ok (.iconst 1, 1) := by decide +kernel
theorem dX6_addArc_18 : decode cX6_addArc 18 = .ok (.iand, 1) := by decide +kernel
theorem dX6_addArc_19 : decode cX6_addArc 19 = .ok (.ifCond .eq 8, 3) := by decide +kernel
theorem dX6_addArc_22 : decode cX6_addArc 22 = .ok (.aload_n 0, 1) := by decide +kernel
theorem dX6_addArc_23 : decode cX6_addArc 23 = .ok (.getfield 43, 3) := by decide +kernel
theorem dX6_addArc_26 : decode cX6_addArc 26 = .ok (.ireturn, 1) := by decide +kernel
theorem dX6_addArc_27 : decode cX6_addArc 27 = .ok (.aload_n 0, 1) := by decide +kernel
theorem dX6_addArc_28 : decode cX6_addArc 28 = .ok (.getfield 43, 3) := by decide +kernel
theorem dX6_addArc_31 : decode cX6_addArc 31 = .ok (.bipush 64, 2) := by decide +kernel
theorem dX6_addArc_33 : decode cX6_addArc 33 = .ok (.if_icmp .lt 6, 3) := by decide +kernel
theorem dX6_addArc_36 : decode cX6_addArc 36 = .ok (.bipush (-3), 2) := by decide +kernel
theorem dX6_addArc_38 : decode cX6_addArc 38 = .ok (.ireturn, 1) := by decide +kernel
theorem dX6_addArc_39 : decode cX6_addArc 39 = .ok (.aload_n 0, 1) := by decide +kernel
theorem dX6_addArc_40 : decode cX6_addArc 40 = .ok (.getfield 30, 3) := by decide +kernel
theorem dX6_addArc_43 : decode cX6_addArc 43 = .ok (.iload 4, 2) := by decide +kernel
theorem dX6_addArc_45 : decode cX6_addArc 45 = .ok (.dup2, 1) := by decide +kernel
theorem dX6_addArc_46 : decode cX6_addArc 46 = .ok (.iaload, 1) := by decide +kernel
theorem dX6_addArc_47 : decode cX6_addArc 47 = .ok (.iconst 1, 1) := by decide +kernel
theorem dX6_addArc_48 : decode cX6_addArc 48 = .ok (.iload_n 3, 1) := by decide +kernel
theorem dX6_addArc_49 : decode cX6_addArc 49 = .ok (.ishl, 1) := by decide +kernel
theorem dX6_addArc_50 : decode cX6_addArc 50 = .ok (.ior, 1) := by decide +kernel
theorem dX6_addArc_51 : decode cX6_addArc 51 = .ok (.iastore, 1) := by decide +kernel
theorem dX6_addArc_52 : decode cX6_addArc 52 = .ok (.aload_n 0, 1) := by decide +kernel
theorem dX6_addArc_53 : decode cX6_addArc 53 = .ok (.dup, 1) := by decide +kernel
theorem dX6_addArc_54 : decode cX6_addArc 54 = .ok (.getfield 40, 3) := by decide +kernel
theorem dX6_addArc_57 : decode cX6_addArc 57 = .ok (.iconst 1, 1) := by decide +kernel
theorem dX6_addArc_58 : decode cX6_addArc 58 = .ok (.iadd, 1) := by decide +kernel
theorem dX6_addArc_59 : decode cX6_addArc 59 = .ok (.putfield 40, 3) := by decide +kernel
theorem dX6_addArc_62 : decode cX6_addArc 62 = .ok (.aload_n 0, 1) := by decide +kernel
theorem dX6_addArc_63 : decode cX6_addArc 63 = .ok (.dup, 1) := by decide +kernel
theorem dX6_addArc_64 : decode cX6_addArc 64 = .ok (.getfield 43, 3) := by decide +kernel
theorem dX6_addArc_67 : decode cX6_addArc 67 = .ok (.iconst 1, 1) := by decide +kernel
theorem dX6_addArc_68 : decode cX6_addArc 68 = .ok (.iadd, 1) := by decide +kernel
theorem dX6_addArc_69 : decode cX6_addArc 69 = .ok (.putfield 43, 3) := by decide +kernel
theorem dX6_addArc_72 : decode cX6_addArc 72 = .ok (.aload_n 0, 1) := by decide +kernel
theorem dX6_addArc_73 : decode cX6_addArc 73 = .ok (.getfield 43, 3) := by decide +kernel
theorem dX6_addArc_76 : decode cX6_addArc 76 = .ok (.ireturn, 1) := by decide +kernel
theorem dX6_setEnd_0 : decode cX6_setEnd 0 = .ok (.aload_n 0, 1) := by decide +kernel
theorem dX6_setEnd_1 : decode cX6_setEnd 1 = .ok (.getfield 46, 3) := by decide +kernel
theorem dX6_setEnd_4 : decode cX6_setEnd 4 = .ok (.iload_n 1, 1) := by decide +kernel
theorem dX6_setEnd_5 : decode cX6_setEnd 5 = .ok (.iushr, 1) := by decide +kernel
theorem dX6_setEnd_6 : decode cX6_setEnd 6 = .ok (.iconst 1, 1) := by decide +kernel
theorem dX6_setEnd_7 : decode cX6_setEnd 7 = .ok (.iand, 1) := by decide +kernel
theorem dX6_setEnd_8 : decode cX6_setEnd 8 = .ok (.istore_n 3, 1) := by decide +kernel
theorem dX6_setEnd_9 : decode cX6_setEnd 9 = .ok (.iload_n 3, 1) := by decide +kernel
theorem dX6_setEnd_10 : decode cX6_setEnd 10 = .ok (.iload_n 2, 1) := by decide +kernel
theorem dX6_setEnd_11 : decode cX6_setEnd 11 = .ok (.if_icmp .eq 25, 3) := by decide +kernel
theorem dX6_setEnd_14 : decode cX6_setEnd 14 = .ok (.aload_n 0, 1) := by decide +kernel
theorem dX6_setEnd_15 : decode cX6_setEnd 15 = .ok (.dup, 1) := by decide +kernel
theorem dX6_setEnd_16 : decode cX6_setEnd 16 = .ok (.getfield 46, 3) := by decide +kernel
theorem dX6_setEnd_19 : decode cX6_setEnd 19 = .ok (.iconst 1, 1) := by decide +kernel
theorem dX6_setEnd_20 : decode cX6_setEnd 20 = .ok (.iload_n 1, 1) := by decide +kernel
theorem dX6_setEnd_21 : decode cX6_setEnd 21 = .ok (.ishl, 1) := by decide +kernel
theorem dX6_setEnd_22 : decode cX6_setEnd 22 = .ok (.ixor, 1) := by decide +kernel
theorem dX6_setEnd_23 : decode cX6_setEnd 23 = .ok (.putfield 46, 3) := by decide +kernel
theorem dX6_setEnd_26 : decode cX6_setEnd 26 = .ok (.aload_n 0, 1) := by decide +kernel
theorem dX6_setEnd_27 : decode cX6_setEnd 27 = .ok (.dup, 1) := by decide +kernel
theorem dX6_setEnd_28 : decode cX6_setEnd 28 = .ok (.getfield 40, 3) := by decide +kernel
theorem dX6_setEnd_31 : decode cX6_setEnd 31 = .ok (.iconst 1, 1) := by decide +kernel
theorem dX6_setEnd_32 : decode cX6_setEnd 32 = .ok (.iadd, 1) := by decide +kernel
theorem dX6_setEnd_33 : decode cX6_setEnd 33 = .ok (.putfield 40, 3) := by decide +kernel
theorem dX6_setEnd_36 : decode cX6_setEnd 36 = .ok (.iload_n 3, 1) := by decide +kernel
theorem dX6_setEnd_37 : decode cX6_setEnd 37 = .ok (.ireturn, 1) := by decide +kernel
theorem dX6_removeAll_0 : decode cX6_removeAll 0 = .ok (.aload_n 0, 1) := by decide +kernel
theorem dX6_removeAll_1 : decode cX6_removeAll 1 = .ok (.getfield 36, 3) := by decide +kernel
theorem dX6_removeAll_4 : decode cX6_removeAll 4 = .ok (.istore_n 1, 1) := by decide +kernel
theorem dX6_removeAll_5 : decode cX6_removeAll 5 = .ok (.aload_n 0, 1) := by decide +kernel
theorem dX6_removeAll_6 : decode cX6_removeAll 6 = .ok (.iconst 0, 1) := by decide +kernel
theorem dX6_removeAll_7 : decode cX6_removeAll 7 = .ok (.putfield 36, 3) := by decide +kernel
theorem dX6_removeAll_10 : decode cX6_removeAll 10 = .ok (.aload_n 0, 1) := by decide +kernel
theorem dX6_removeAll_11 : decode cX6_removeAll 11 = .ok (.iconst 0, 1) := by decide +kernel
theorem dX6_removeAll_12 : decode cX6_removeAll 12 = .ok (.putfield 43, 3) := by decide +kernel
theorem dX6_removeAll_15 : decode cX6_removeAll 15 = .ok (.aload_n 0, 1) := by decide +kernel
theorem dX6_removeAll_16 : decode cX6_removeAll 16 = .ok (.iconst 0, 1) := by decide +kernel
theorem dX6_removeAll_17 : decode cX6_removeAll 17 = .ok (.putfield 46, 3) := by decide +kernel
theorem dX6_removeAll_20 : decode cX6_removeAll 20 = .ok (.aload_n 0, 1) := by decide +kernel
theorem dX6_removeAll_21 : decode cX6_removeAll 21 = .ok (.getfield 30, 3) := by decide +kernel
theorem dX6_removeAll_24 : decode cX6_removeAll 24 = .ok (.iconst 0, 1) := by decide +kernel
theorem dX6_removeAll_25 : decode cX6_removeAll 25 = .ok (.invokestatic 49, 3) := by decide +kernel
theorem dX6_removeAll_28 : decode cX6_removeAll 28 = .ok (.aload_n 0, 1) := by decide +kernel
theorem dX6_removeAll_29 : decode cX6_removeAll 29 = .ok (.dup, 1) := by decide +kernel
theorem dX6_removeAll_30 : decode cX6_removeAll 30 = .ok (.getfield 40, 3) := by decide +kernel
theorem dX6_removeAll_33 : decode cX6_removeAll 33 = .ok (.iconst 1, 1) := by decide +kernel
theorem dX6_removeAll_34 : decode cX6_removeAll 34 = .ok (.iadd, 1) := by decide +kernel
theorem dX6_removeAll_35 : decode cX6_removeAll 35 = .ok (.putfield 40, 3) := by decide +kernel
theorem dX6_removeAll_38 : decode cX6_removeAll 38 = .ok (.iload_n 1, 1) := by decide +kernel
theorem dX6_removeAll_39 : decode cX6_removeAll 39 = .ok (.ireturn, 1) := by decide +kernel
theorem dX6_addToWord_0 : decode cX6_addToWord 0 = .ok (.aload_n 0, 1) := by decide +kernel
theorem dX6_addToWord_1 : decode cX6_addToWord 1 = .ok (.getfield 55, 3) := by decide +kernel
theorem dX6_addToWord_4 : decode cX6_addToWord 4 = .ok (.bipush 30, 2) := by decide +kernel
theorem dX6_addToWord_6 : decode cX6_addToWord 6 = .ok (.if_icmp .lt 6, 3) := by decide +kernel
theorem dX6_addToWord_9 : decode cX6_addToWord 9 = .ok (.bipush (-3), 2) := by decide +kernel
theorem dX6_addToWord_11 : decode cX6_addToWord 11 = .ok (.ireturn, 1) := by decide +kernel
theorem dX6_addToWord_12 : decode cX6_addToWord 12 = .ok (.aload_n 0, 1) := by decide +kernel
theorem dX6_addToWord_13 : decode cX6_addToWord 13 = .ok (.getfield 33, 3) := by decide +kernel
theorem dX6_addToWord_16 : decode cX6_addToWord 16 = .ok (.aload_n 0, 1) := by decide +kernel
theorem dX6_addToWord_17 : decode cX6_addToWord 17 = .ok (.getfield 55, 3) := by decide +kernel
theorem dX6_addToWord_20 : decode cX6_addToWord 20 = .ok (.iload_n 1, 1) := by decide +kernel
theorem dX6_addToWord_21 : decode cX6_addToWord 21 = .ok (.iastore, 1) := by decide +kernel
theorem dX6_addToWord_22 : decode cX6_addToWord 22 = .ok (.aload_n 0, 1) := by decide +kernel
theorem dX6_addToWord_23 : decode cX6_addToWord 23 = .ok (.dup, 1) := by decide +kernel
theorem dX6_addToWord_24 : decode cX6_addToWord 24 = .ok (.getfield 58, 3) := by decide +kernel
theorem dX6_addToWord_27 : decode cX6_addToWord 27 = .ok (.iconst 1, 1) := by decide +kernel
theorem dX6_addToWord_28 : decode cX6_addToWord 28 = .ok (.iadd, 1) := by decide +kernel
theorem dX6_addToWord_29 : decode cX6_addToWord 29 = .ok (.putfield 58, 3) := by decide +kernel
theorem dX6_addToWord_32 : decode cX6_addToWord 32 = .ok (.aload_n 0, 1) := by decide +kernel
theorem dX6_addToWord_33 : decode cX6_addToWord 33 = .ok (.dup, 1) := by decide +kernel
theorem dX6_addToWord_34 : decode cX6_addToWord 34 = .ok (.getfield 55, 3) := by decide +kernel
theorem dX6_addToWord_37 : decode cX6_addToWord 37 = .ok (.iconst 1, 1) := by decide +kernel
theorem dX6_addToWord_38 : decode cX6_addToWord 38 = .ok (.iadd, 1) := by decide +kernel
theorem dX6_addToWord_39 : decode cX6_addToWord 39 = .ok (.putfield 55, 3) := by decide +kernel
theorem dX6_addToWord_42 : decode cX6_addToWord 42 = .ok (.aload_n 0, 1) := by decide +kernel
theorem dX6_addToWord_43 : decode cX6_addToWord 43 = .ok (.getfield 55, 3) := by decide +kernel
theorem dX6_addToWord_46 : decode cX6_addToWord 46 = .ok (.ireturn, 1) := by decide +kernel
theorem dX6_emptyWord_0 : decode cX6_emptyWord 0 = .ok (.aload_n 0, 1) := by decide +kernel
theorem dX6_emptyWord_1 : decode cX6_emptyWord 1 = .ok (.getfield 55, 3) := by decide +kernel
theorem dX6_emptyWord_4 : decode cX6_emptyWord 4 = .ok (.istore_n 1, 1) := by decide +kernel
theorem dX6_emptyWord_5 : decode cX6_emptyWord 5 = .ok (.aload_n 0, 1) := by decide +kernel
theorem dX6_emptyWord_6 : decode cX6_emptyWord 6 = .ok (.iconst 0, 1) := by decide +kernel
theorem dX6_emptyWord_7 : decode cX6_emptyWord 7 = .ok (.putfield 55, 3) := by decide +kernel
theorem dX6_emptyWord_10 : decode cX6_emptyWord 10 = .ok (.aload_n 0, 1) := by decide +kernel
theorem dX6_emptyWord_11 : decode cX6_emptyWord 11 = .ok (.dup, 1) := by decide +kernel
theorem dX6_emptyWord_12 : decode cX6_emptyWord 12 = .ok (.getfield 58, 3) := by decide +kernel
theorem dX6_emptyWord_15 : decode cX6_emptyWord 15 = .ok (.iconst 1, 1) := by decide +kernel
theorem dX6_emptyWord_16 : decode cX6_emptyWord 16 = .ok (.iadd, 1) := by decide +kernel
theorem dX6_emptyWord_17 : decode cX6_emptyWord 17 = .ok (.putfield 58, 3) := by decide +kernel
theorem dX6_emptyWord_20 : decode cX6_emptyWord 20 = .ok (.iload_n 1, 1) := by decide +kernel
theorem dX6_emptyWord_21 : decode cX6_emptyWord 21 = .ok (.ireturn, 1) := by decide +kernel
theorem dX6_holdsWord_0 : decode cX6_holdsWord 0 = .ok (.iconst 1, 1) := by decide +kernel
theorem dX6_holdsWord_1 : decode cX6_holdsWord 1 = .ok (.iload_n 1, 1) := by decide +kernel
theorem dX6_holdsWord_2 : decode cX6_holdsWord 2 = .ok (.ishl, 1) := by decide +kernel
theorem dX6_holdsWord_3 : decode cX6_holdsWord 3 = .ok (.istore_n 2, 1) := by decide +kernel
theorem dX6_holdsWord_4 : decode cX6_holdsWord 4 = .ok (.aload_n 0, 1) := by decide +kernel
theorem dX6_holdsWord_5 : decode cX6_holdsWord 5 = .ok (.getfield 55, 3) := by decide +kernel
theorem dX6_holdsWord_8 : decode cX6_holdsWord 8 = .ok (.iconst 1, 1) := by decide +kernel
theorem dX6_holdsWord_9 : decode cX6_holdsWord 9 = .ok (.isub, 1) := by decide +kernel
theorem dX6_holdsWord_10 : decode cX6_holdsWord 10 = .ok (.istore_n 3, 1) := by decide +kernel
theorem dX6_holdsWord_11 : decode cX6_holdsWord 11 = .ok (.iload_n 3, 1) := by decide +kernel
theorem dX6_holdsWord_12 : decode cX6_holdsWord 12 = .ok (.ifCond .lt 21, 3) := by decide +kernel
theorem dX6_holdsWord_15 : decode cX6_holdsWord 15 = .ok (.aload_n 0, 1) := by decide +kernel
theorem dX6_holdsWord_16 : decode cX6_holdsWord 16 = .ok (.iload_n 2, 1) := by decide +kernel
theorem dX6_holdsWord_17 : decode cX6_holdsWord 17 = .ok (.aload_n 0, 1) := by decide +kernel
theorem dX6_holdsWord_18 : decode cX6_holdsWord 18 = .ok (.getfield 33, 3) := by decide +kernel
theorem dX6_holdsWord_21 : decode cX6_holdsWord 21 = .ok (.iload_n 3, 1) := by decide +kernel
theorem dX6_holdsWord_22 : decode cX6_holdsWord 22 = .ok (.iaload, 1) := by decide +kernel
theorem dX6_holdsWord_23 : decode cX6_holdsWord 23 = .ok (.invokevirtual 61, 3) := by decide +kernel
theorem dX6_holdsWord_26 : decode cX6_holdsWord 26 = .ok (.istore_n 2, 1) := by decide +kernel
theorem dX6_holdsWord_27 : decode cX6_holdsWord 27 = .ok (.iinc 3 (-1), 3) := by decide +kernel
theorem dX6_holdsWord_30 : decode cX6_holdsWord 30 = .ok (.goto (-19), 3) := by decide +kernel
theorem dX6_holdsWord_33 : decode cX6_holdsWord 33 = .ok (.iload_n 2, 1) := by decide +kernel
theorem dX6_holdsWord_34 : decode cX6_holdsWord 34 = .ok (.aload_n 0, 1) := by decide +kernel
theorem dX6_holdsWord_35 : decode cX6_holdsWord 35 = .ok (.getfield 46, 3) := by decide +kernel
theorem dX6_holdsWord_38 : decode cX6_holdsWord 38 = .ok (.iand, 1) := by decide +kernel
theorem dX6_holdsWord_39 : decode cX6_holdsWord 39 = .ok (.ifCond .eq 7, 3) := by decide +kernel
theorem dX6_holdsWord_42 : decode cX6_holdsWord 42 = .ok (.iconst 1, 1) := by decide +kernel
theorem dX6_holdsWord_43 : decode cX6_holdsWord 43 = .ok (.goto 4, 3) := by decide +kernel
theorem dX6_holdsWord_46 : decode cX6_holdsWord 46 = .ok (.iconst 0, 1) := by decide +kernel
theorem dX6_holdsWord_47 : decode cX6_holdsWord 47 = .ok (.ireturn, 1) := by decide +kernel
theorem dX6_nodesBehind_0 : decode cX6_nodesBehind 0 = .ok (.iconst 0, 1) := by decide +kernel
theorem dX6_nodesBehind_1 : decode cX6_nodesBehind 1 = .ok (.istore_n 3, 1) := by decide +kernel
theorem dX6_nodesBehind_2 : decode cX6_nodesBehind 2 = .ok (.iconst 0, 1) := by decide +kernel
theorem dX6_nodesBehind_3 : decode cX6_nodesBehind 3 = .ok (.istore 4, 2) := by decide +kernel
theorem dX6_nodesBehind_5 : decode cX6_nodesBehind 5 = .ok (.iload 4, 2) := by decide +kernel
theorem dX6_nodesBehind_7 : decode cX6_nodesBehind 7 = .ok (.bipush 16, 2) := by decide +kernel
theorem dX6_nodesBehind_9 : decode cX6_nodesBehind 9 = .ok (.if_icmp .ge 33, 3) := by decide +kernel
theorem dX6_nodesBehind_12 : decode cX6_nodesBehind 12 = .ok (.iload_n 1, 1) := by decide +kernel
theorem dX6_nodesBehind_13 : decode cX6_nodesBehind 13 = .ok (.iload 4, 2) := by decide +kernel
theorem dX6_nodesBehind_15 : decode cX6_nodesBehind 15 = .ok (.iushr, 1) := by decide +kernel
theorem dX6_nodesBehind_16 : decode cX6_nodesBehind 16 = .ok (.iconst 1, 1) := by decide +kernel
theorem dX6_nodesBehind_17 : decode cX6_nodesBehind 17 = .ok (.iand, 1) := by decide +kernel
theorem dX6_nodesBehind_18 : decode cX6_nodesBehind 18 = .ok (.ifCond .eq 18, 3) := by decide +kernel
theorem dX6_nodesBehind_21 : decode cX6_nodesBehind 21 = .ok (.iload_n 3, 1) := by decide +kernel
theorem dX6_nodesBehind_22 : decode cX6_nodesBehind 22 = .ok (.aload_n 0, 1) := by decide +kernel
theorem dX6_nodesBehind_23 : decode cX6_nodesBehind 23 = .ok (.getfield 30, 3) := by decide +kernel
theorem dX6_nodesBehind_26 : decode cX6_nodesBehind 26 = .ok (.iload 4, 2) := by decide +kernel
theorem dX6_nodesBehind_28 : decode cX6_nodesBehind 28 = .ok (.bipush 12, 2) := by decide +kernel
theorem dX6_nodesBehind_30 : decode cX6_nodesBehind 30 = .ok (.imul, 1) := by decide +kernel
theorem dX6_nodesBehind_31 : decode cX6_nodesBehind 31 = .ok (.iload_n 2, 1) := by decide +kernel
theorem dX6_nodesBehind_32 : decode cX6_nodesBehind 32 = .ok (.iadd, 1) := by decide +kernel
theorem dX6_nodesBehind_33 : decode cX6_nodesBehind 33 = .ok (.iaload, 1) := by decide +kernel
theorem dX6_nodesBehind_34 : decode cX6_nodesBehind 34 = .ok (.ior, 1) := by decide +kernel
theorem dX6_nodesBehind_35 : decode cX6_nodesBehind 35 = .ok (.istore_n 3, 1) := by decide +kernel
theorem dX6_nodesBehind_36 : decode cX6_nodesBehind 36 = .ok (.iinc 4 1, 3) := by decide +kernel
theorem dX6_nodesBehind_39 : decode cX6_nodesBehind 39 = .ok (.goto (-34), 3) := by decide +kernel
theorem dX6_nodesBehind_42 : decode cX6_nodesBehind 42 = .ok (.iload_n 3, 1) := by decide +kernel
theorem dX6_nodesBehind_43 : decode cX6_nodesBehind 43 = .ok (.ireturn, 1) := by decide +kernel
theorem dX7_init_0 : decode cX7_init 0 = .ok (.aload_n 0, 1) := by decide +kernel
theorem dX7_init_1 : decode cX7_init 1 = .ok (.invokespecial 3, 3) := by decide +kernel
theorem dX7_init_4 : decode cX7_init 4 = .ok (.aload_n 0, 1) := by decide +kernel
theorem dX7_init_5 : decode cX7_init 5 = .ok (.aload_n 1, 1) := by decide +kernel
theorem dX7_init_6 : decode cX7_init 6 = .ok (.putfield 9, 3) := by decide +kernel
theorem dX7_init_9 : decode cX7_init 9 = .ok (.aload_n 0, 1) := by decide +kernel
theorem dX7_init_10 : decode cX7_init 10 = .ok (.iload_n 2, 1) := by decide +kernel
theorem dX7_init_11 : decode cX7_init 11 = .ok (.iconst 0, 1) := by decide +kernel
theorem dX7_init_12 : decode cX7_init 12 = .ok (.invokestatic 15, 3) := by decide +kernel
theorem dX7_init_15 : decode cX7_init 15 = .ok (.putfield 21, 3) := by decide +kernel
theorem dX7_init_18 : decode cX7_init 18 = .ok (.aload_n 0, 1) := by decide +kernel
theorem dX7_init_19 : decode cX7_init 19 = .ok (.aload_n 0, 1) := by decide +kernel
theorem dX7_init_20 : decode cX7_init 20 = .ok (.getfield 21, 3) := by decide +kernel
theorem dX7_init_23 : decode cX7_init 23 = .ok (.newarray .int, 2) := by decide +kernel
theorem dX7_init_25 : decode cX7_init 25 = .ok (.putfield 25, 3) := by decide +kernel
theorem dX7_init_28 : decode cX7_init 28 = .ok (.aload_n 0, 1) := by decide +kernel
theorem dX7_init_29 : decode cX7_init 29 = .ok (.aload_n 0, 1) := by decide +kernel
theorem dX7_init_30 : decode cX7_init 30 = .ok (.getfield 21, 3) := by decide +kernel
theorem dX7_init_33 : decode cX7_init 33 = .ok (.iconst 1, 1) := by decide +kernel
theorem dX7_init_34 : decode cX7_init 34 = .ok (.iadd, 1) := by decide +kernel
theorem dX7_init_35 : decode cX7_init 35 = .ok (.bipush 16, 2) := by decide +kernel
theorem dX7_init_37 : decode cX7_init 37 = .ok (.imul, 1) := by decide +kernel
theorem dX7_init_38 : decode cX7_init 38 = .ok (.newarray .int, 2) := by decide +kernel
theorem dX7_init_40 : decode cX7_init 40 = .ok (.putfield 29, 3) := by decide +kernel
theorem dX7_init_43 : decode cX7_init 43 = .ok (.return_, 1) := by decide +kernel
theorem dX7_buildWord_0 : decode cX7_buildWord 0 = .ok (.aload_n 0, 1) := by decide +kernel
theorem dX7_buildWord_1 : decode cX7_buildWord 1 = .ok (.iconst 0, 1) := by decide +kernel
theorem dX7_buildWord_2 : decode cX7_buildWord 2 = .ok (.putfield 32, 3) := by decide +kernel
theorem dX7_buildWord_5 : decode cX7_buildWord 5 = .ok (.iconst 0, 1) := by decide +kernel
theorem dX7_buildWord_6 : decode cX7_buildWord 6 = .ok (.istore_n 2, 1) := by decide +kernel
theorem dX7_buildWord_7 : decode cX7_buildWord 7 = .ok (.iload_n 2, 1) := by decide +kernel
theorem dX7_buildWord_8 : decode cX7_buildWord 8 = .ok (.bipush 16, 2) := by decide +kernel
theorem dX7_buildWord_10 : decode cX7_buildWord 10 = .ok (.if_icmp .ge 32, 3) := by decide +kernel
theorem dX7_buildWord_13 : decode cX7_buildWord 13 = .ok (.aload_n 0, 1) := by decide +kernel
theorem dX7_buildWord_14 : decode cX7_buildWord 14 = .ok (.getfield 29, 3) := by decide +kernel
theorem dX7_buildWord_17 : decode cX7_buildWord 17 = .ok (.iload_n 2, 1) := by decide +kernel
theorem dX7_buildWord_18 : decode cX7_buildWord 18 = .ok (.aload_n 1, 1) := by decide +kernel
theorem dX7_buildWord_19 : decode cX7_buildWord 19 = .ok (.getfield 35, 3) := by decide +kernel
theorem dX7_buildWord_22 : decode cX7_buildWord 22 = .ok (.iload_n 2, 1) := by decide +kernel
theorem dX7_buildWord_23 : decode cX7_buildWord 23 = .ok (.iushr, 1) := by decide +kernel
theorem dX7_buildWord_24 : decode cX7_buildWord 24 = .ok (.iconst 1, 1) := by decide +kernel
theorem dX7_buildWord_25 : decode cX7_buildWord 25 = .ok (.iand, 1) := by decide +kernel
theorem dX7_buildWord_26 : decode cX7_buildWord 26 = .ok (.ifCond .eq 7, 3) := by decide +kernel
theorem dX7_buildWord_29 : decode cX7_buildWord 29 = .ok (.iconst 0, 1) := by decide +kernel
theorem dX7_buildWord_30 : decode cX7_buildWord 30 = .ok (.goto 5, 3) := by decide +kernel
theorem dX7_buildWord_33 : decode cX7_buildWord 33 = .ok (.ldc 40, 2) := by decide +kernel
theorem dX7_buildWord_35 : decode cX7_buildWord 35 = .ok (.iastore, 1) := by decide +kernel
theorem dX7_buildWord_36 : decode cX7_buildWord 36 = .ok (.iinc 2 1, 3) := by decide +kernel
theorem dX7_buildWord_39 : decode cX7_buildWord 39 = .ok (.goto (-32), 3) := by decide +kernel
theorem dX7_buildWord_42 : decode cX7_buildWord 42 = .ok (.iconst 0, 1) := by decide +kernel
theorem dX7_buildWord_43 : decode cX7_buildWord 43 = .ok (.istore_n 2, 1) := by decide +kernel
theorem dX7_buildWord_44 : decode cX7_buildWord 44 = .ok (.iload_n 2, 1) := by decide +kernel
theorem dX7_buildWord_45 : decode cX7_buildWord 45 = .ok (.aload_n 1, 1) := by decide +kernel
theorem dX7_buildWord_46 : decode cX7_buildWord 46 = .ok (.getfield 41, 3) := by decide +kernel
theorem dX7_buildWord_49 : decode cX7_buildWord 49 = .ok (.if_icmp .ge 19, 3) := by decide +kernel
theorem dX7_buildWord_52 : decode cX7_buildWord 52 = .ok (.aload_n 0, 1) := by decide +kernel
theorem dX7_buildWord_53 : decode cX7_buildWord 53 = .ok (.aload_n 1, 1) := by decide +kernel
theorem dX7_buildWord_54 : decode cX7_buildWord 54 = .ok (.getfield 42, 3) := by decide +kernel
theorem dX7_buildWord_57 : decode cX7_buildWord 57 = .ok (.iload_n 2, 1) := by decide +kernel
theorem dX7_buildWord_58 : decode cX7_buildWord 58 = .ok (.iaload, 1) := by decide +kernel
theorem dX7_buildWord_59 : decode cX7_buildWord 59 = .ok (.invokevirtual 45, 3) := by decide +kernel
theorem dX7_buildWord_62 : decode cX7_buildWord 62 = .ok (.iinc 2 1, 3) := by decide +kernel
theorem dX7_buildWord_65 : decode cX7_buildWord 65 = .ok (.goto (-21), 3) := by decide +kernel
theorem dX7_buildWord_68 : decode cX7_buildWord 68 = .ok (.return_, 1) := by decide +kernel
theorem dX7_pile_0 : decode cX7_pile 0 = .ok (.aload_n 0, 1) := by decide +kernel
theorem dX7_pile_1 : decode cX7_pile 1 = .ok (.getfield 32, 3) := by decide +kernel
theorem dX7_pile_4 : decode cX7_pile 4 = .ok (.aload_n 0, 1) := by decide +kernel
theorem dX7_pile_5 : decode cX7_pile 5 = .ok (.getfield 21, 3) := by decide +kernel
theorem dX7_pile_8 : decode cX7_pile 8 = .ok (.if_icmp .lt 4, 3) := by decide +kernel
theorem dX7_pile_11 : decode cX7_pile 11 = .ok (.return_, 1) := by decide +kernel
theorem dX7_pile_12 : decode cX7_pile 12 = .ok (.iconst 0, 1) := by decide +kernel
theorem dX7_pile_13 : decode cX7_pile 13 = .ok (.istore_n 2, 1) := by decide +kernel
theorem dX7_pile_14 : decode cX7_pile 14 = .ok (.iload_n 2, 1) := by decide +kernel
theorem dX7_pile_15 : decode cX7_pile 15 = .ok (.bipush 16, 2) := by decide +kernel
theorem dX7_pile_17 : decode cX7_pile 17 = .ok (.if_icmp .ge 31, 3) := by decide +kernel
theorem dX7_pile_20 : decode cX7_pile 20 = .ok (.aload_n 0, 1) := by decide +kernel
theorem dX7_pile_21 : decode cX7_pile 21 = .ok (.getfield 29, 3) := by decide +kernel
theorem dX7_pile_24 : decode cX7_pile 24 = .ok (.aload_n 0, 1) := by decide +kernel
theorem dX7_pile_25 : decode cX7_pile 25 = .ok (.getfield 32, 3) := by decide +kernel
theorem dX7_pile_28 : decode cX7_pile 28 = .ok (.iconst 1, 1) := by decide +kernel
theorem dX7_pile_29 : decode cX7_pile 29 = .ok (.iadd, 1) := by decide +kernel
theorem dX7_pile_30 : decode cX7_pile 30 = .ok (.bipush 16, 2) := by decide +kernel
theorem dX7_pile_32 : decode cX7_pile 32 = .ok (.imul, 1) := by decide +kernel
theorem dX7_pile_33 : decode cX7_pile 33 = .ok (.iload_n 2, 1) := by decide +kernel
theorem dX7_pile_34 : decode cX7_pile 34 = .ok (.iadd, 1) := by decide +kernel
theorem dX7_pile_35 : decode cX7_pile 35 = .ok (.aload_n 0, 1) := by decide +kernel
theorem dX7_pile_36 : decode cX7_pile 36 = .ok (.iload_n 2, 1) := by decide +kernel
theorem dX7_pile_37 : decode cX7_pile 37 = .ok (.iload_n 1, 1) := by decide +kernel
theorem dX7_pile_38 : decode cX7_pile 38 = .ok (.invokevirtual 49, 3) := by decide +kernel
theorem dX7_pile_41 : decode cX7_pile 41 = .ok (.iastore, 1) := by decide +kernel
theorem dX7_pile_42 : decode cX7_pile 42 = .ok (.iinc 2 1, 3) := by decide +kernel
theorem dX7_pile_45 : decode cX7_pile 45 = .ok (.goto (-31), 3) := by decide +kernel
theorem dX7_pile_48 : decode cX7_pile 48 = .ok (.aload_n 0, 1) := by decide +kernel
theorem dX7_pile_49 : decode cX7_pile 49 = .ok (.getfield 25, 3) := by decide +kernel
theorem dX7_pile_52 : decode cX7_pile 52 = .ok (.aload_n 0, 1) := by decide +kernel
theorem dX7_pile_53 : decode cX7_pile 53 = .ok (.getfield 32, 3) := by decide +kernel
theorem dX7_pile_56 : decode cX7_pile 56 = .ok (.iload_n 1, 1) := by decide +kernel
theorem dX7_pile_57 : decode cX7_pile 57 = .ok (.iastore, 1) := by decide +kernel
theorem dX7_pile_58 : decode cX7_pile 58 = .ok (.aload_n 0, 1) := by decide +kernel
theorem dX7_pile_59 : decode cX7_pile 59 = .ok (.dup, 1) := by decide +kernel
theorem dX7_pile_60 : decode cX7_pile 60 = .ok (.getfield 32, 3) := by decide +kernel
theorem dX7_pile_63 : decode cX7_pile 63 = .ok (.iconst 1, 1) := by decide +kernel
theorem dX7_pile_64 : decode cX7_pile 64 = .ok (.iadd, 1) := by decide +kernel
theorem dX7_pile_65 : decode cX7_pile 65 = .ok (.putfield 32, 3) := by decide +kernel
theorem dX7_pile_68 : decode cX7_pile 68 = .ok (.return_, 1) := by decide +kernel
theorem dX7_takeTop_0 : decode cX7_takeTop 0 = .ok (.aload_n 0, 1) := by decide +kernel
theorem dX7_takeTop_1 : decode cX7_takeTop 1 = .ok (.getfield 32, 3) := by decide +kernel
theorem dX7_takeTop_4 : decode cX7_takeTop 4 = .ok (.ifCond .gt 5, 3) := by decide +kernel
theorem dX7_takeTop_7 : decode cX7_takeTop 7 = .ok (.iconst (-1), 1) := by decide +kernel
theorem dX7_takeTop_8 : decode cX7_takeTop 8 = .ok (.ireturn, 1) := by decide +kernel
theorem dX7_takeTop_9 : decode cX7_takeTop 9 = .ok (.aload_n 0, 1) := by decide +kernel
theorem dX7_takeTop_10 : decode cX7_takeTop 10 = .ok (.dup, 1) := by decide +kernel
theorem dX7_takeTop_11 : decode cX7_takeTop 11 = .ok (.getfield 32, 3) := by decide +kernel
theorem dX7_takeTop_14 : decode cX7_takeTop 14 = .ok (.iconst 1, 1) := by decide +kernel
theorem dX7_takeTop_15 : decode cX7_takeTop 15 = .ok (.isub, 1) := by decide +kernel
theorem dX7_takeTop_16 : decode cX7_takeTop 16 = .ok (.putfield 32, 3) := by decide +kernel
theorem dX7_takeTop_19 : decode cX7_takeTop 19 = .ok (.aload_n 0, 1) := by decide +kernel
theorem dX7_takeTop_20 : decode cX7_takeTop 20 = .ok (.getfield 25, 3) := by decide +kernel
theorem dX7_takeTop_23 : decode cX7_takeTop 23 = .ok (.aload_n 0, 1) := by decide +kernel
theorem dX7_takeTop_24 : decode cX7_takeTop 24 = .ok (.getfield 32, 3) := by decide +kernel
theorem dX7_takeTop_27 : decode cX7_takeTop 27 = .ok (.iaload, 1) := by decide +kernel
theorem dX7_takeTop_28 : decode cX7_takeTop 28 = .ok (.ireturn, 1) := by decide +kernel
theorem dX7_stepsFrom_0 : decode cX7_stepsFrom 0 = .ok (.aload_n 0, 1) := by decide +kernel
theorem dX7_stepsFrom_1 : decode cX7_stepsFrom 1 = .ok (.getfield 29, 3) := by decide +kernel
theorem dX7_stepsFrom_4 : decode cX7_stepsFrom 4 = .ok (.aload_n 0, 1) := by decide +kernel
theorem dX7_stepsFrom_5 : decode cX7_stepsFrom 5 = .ok (.getfield 32, 3) := by decide +kernel
theorem dX7_stepsFrom_8 : decode cX7_stepsFrom 8 = .ok (.bipush 16, 2) := by decide +kernel
theorem dX7_stepsFrom_10 : decode cX7_stepsFrom 10 = .ok (.imul, 1) := by decide +kernel
theorem dX7_stepsFrom_11 : decode cX7_stepsFrom 11 = .ok (.iload_n 1, 1) := by decide +kernel
theorem dX7_stepsFrom_12 : decode cX7_stepsFrom 12 = .ok (.iadd, 1) := by decide +kernel
theorem dX7_stepsFrom_13 : decode cX7_stepsFrom 13 = .ok (.iaload, 1) := by decide +kernel
theorem dX7_stepsFrom_14 : decode cX7_stepsFrom 14 = .ok (.ireturn, 1) := by decide +kernel
theorem dX7_stepsByRule_0 : decode cX7_stepsByRule 0 = .ok (.aload_n 1, 1) := by decide +kernel
theorem dX7_stepsByRule_1 : decode cX7_stepsByRule 1 = .ok (.getfield 52, 3) := by decide +kernel
theorem dX7_stepsByRule_4 : decode cX7_stepsByRule 4 = .ok (.iload_n 2, 1) := by decide +kernel
theorem dX7_stepsByRule_5 : decode cX7_stepsByRule 5 = .ok (.iaload, 1) := by decide +kernel
theorem dX7_stepsByRule_6 : decode cX7_stepsByRule 6 = .ok (.istore_n 3, 1) := by decide +kernel
theorem dX7_stepsByRule_7 : decode cX7_stepsByRule 7 = .ok (.aload_n 1, 1) := by decide +kernel
theorem dX7_stepsByRule_8 : decode cX7_stepsByRule 8 = .ok (.getfield 55, 3) := by decide +kernel
theorem dX7_stepsByRule_11 : decode cX7_stepsByRule 11 = .ok (.iload_n 2, 1) := by decide +kernel
theorem dX7_stepsByRule_12 : decode cX7_stepsByRule 12 = .ok (.iaload, 1) := by decide +kernel
theorem dX7_stepsByRule_13 : decode cX7_stepsByRule 13 = .ok (.ifCond .ne 9, 3) := by decide +kernel
theorem dX7_stepsByRule_16 : decode cX7_stepsByRule 16 = .ok (.aload_n 0, 1) := by decide +kernel
theorem dX7_stepsByRule_17 : decode cX7_stepsByRule 17 = .ok (.iload_n 3, 1) := by decide +kernel
theorem dX7_stepsByRule_18 : decode cX7_stepsByRule 18 = .ok (.invokevirtual 58, 3) := by decide +kernel
theorem dX7_stepsByRule_21 : decode cX7_stepsByRule 21 = .ok (.ireturn, 1) := by decide +kernel
theorem dX7_stepsByRule_22 : decode cX7_stepsByRule 22 = .ok (.aload_n 1, 1) := by decide +kernel
theorem dX7_stepsByRule_23 : decode cX7_stepsByRule 23 = .ok (.getfield 55, 3) := by decide +kernel
theorem dX7_stepsByRule_26 : decode cX7_stepsByRule 26 = .ok (.iload_n 2, 1) := by decide +kernel
theorem dX7_stepsByRule_27 : decode cX7_stepsByRule 27 = .ok (.iaload, 1) := by decide +kernel
theorem dX7_stepsByRule_28 : decode cX7_stepsByRule 28 = .ok (.iconst 1, 1) := by decide +kernel
theorem dX7_stepsByRule_29 : decode cX7_stepsByRule 29 = .ok (.if_icmp .ne 15, 3) := by decide +kernel
theorem dX7_stepsByRule_32 : decode cX7_stepsByRule 32 = .ok (.aload_n 0, 1) := by decide +kernel
theorem dX7_stepsByRule_33 : decode cX7_stepsByRule 33 = .ok (.iload_n 3, 1) := by decide +kernel
theorem dX7_stepsByRule_34 : decode cX7_stepsByRule 34 = .ok (.aload_n 1, 1) := by decide +kernel
theorem dX7_stepsByRule_35 : decode cX7_stepsByRule 35 = .ok (.getfield 62, 3) := by decide +kernel
theorem dX7_stepsByRule_38 : decode cX7_stepsByRule 38 = .ok (.iload_n 2, 1) := by decide +kernel
theorem dX7_stepsByRule_39 : decode cX7_stepsByRule 39 = .ok (.iaload, 1) := by decide +kernel
theorem dX7_stepsByRule_40 : decode cX7_stepsByRule 40 = .ok (.invokevirtual 49, 3) := by decide +kernel
theorem dX7_stepsByRule_43 : decode cX7_stepsByRule 43 = .ok (.ireturn, 1) := by decide +kernel
theorem dX7_stepsByRule_44 : decode cX7_stepsByRule 44 = .ok (.iload_n 3, 1) := by decide +kernel
theorem dX7_stepsByRule_45 : decode cX7_stepsByRule 45 = .ok (.aload_n 1, 1) := by decide +kernel
theorem dX7_stepsByRule_46 : decode cX7_stepsByRule 46 = .ok (.getfield 62, 3) := by decide +kernel
theorem dX7_stepsByRule_49 : decode cX7_stepsByRule 49 = .ok (.iload_n 2, 1) := by decide +kernel
theorem dX7_stepsByRule_50 : decode cX7_stepsByRule 50 = .ok (.iaload, 1) := by decide +kernel
theorem dX7_stepsByRule_51 : decode cX7_stepsByRule 51 = .ok (.invokestatic 65, 3) := by decide +kernel
theorem dX7_stepsByRule_54 : decode cX7_stepsByRule 54 = .ok (.istore 4, 2) := by decide +kernel
theorem dX7_stepsByRule_56 : decode cX7_stepsByRule 56 = .ok (.ldc 40, 2) := by decide +kernel
theorem dX7_stepsByRule_58 : decode cX7_stepsByRule 58 = .ok (.istore 5, 2) := by decide +kernel
theorem dX7_stepsByRule_60 : decode cX7_stepsByRule 60 = .ok (.iconst 0, 1) := by decide +kernel
theorem dX7_stepsByRule_61 : decode cX7_stepsByRule 61 = .ok (.istore 6, 2) := by decide +kernel
theorem dX7_stepsByRule_63 : decode cX7_stepsByRule 63 = .ok (.iload 6, 2) := by decide +kernel
theorem dX7_stepsByRule_65 : decode cX7_stepsByRule 65 = .ok (.bipush 16, 2) := by decide +kernel
theorem dX7_stepsByRule_67 : decode cX7_stepsByRule 67 = .ok (.if_icmp .ge 55, 3) := by decide +kernel
theorem dX7_stepsByRule_70 : decode cX7_stepsByRule 70 = .ok (.aload_n 0, 1) := by decide +kernel
theorem dX7_stepsByRule_71 : decode cX7_stepsByRule 71 = .ok (.getfield 9, 3) := by decide +kernel
theorem dX7_stepsByRule_74 : decode cX7_stepsByRule 74 = .ok (.getfield 70, 3) := by decide +kernel
theorem dX7_stepsByRule_77 : decode cX7_stepsByRule 77 = .ok (.iload 4, 2) := by decide +kernel
theorem dX7_stepsByRule_79 : decode cX7_stepsByRule 79 = .ok (.iload 6, 2) := by decide +kernel
theorem dX7_stepsByRule_81 : decode cX7_stepsByRule 81 = .ok (.iadd, 1) := by decide +kernel
theorem dX7_stepsByRule_82 : decode cX7_stepsByRule 82 = .ok (.iaload, 1) := by decide +kernel
theorem dX7_stepsByRule_83 : decode cX7_stepsByRule 83 = .ok (.istore 7, 2) := by decide +kernel
theorem dX7_stepsByRule_85 : decode cX7_stepsByRule 85 = .ok (.iload 7, 2) := by decide +kernel
theorem dX7_stepsByRule_87 : decode cX7_stepsByRule 87 = .ok (.iload 5, 2) := by decide +kernel
theorem dX7_stepsByRule_89 : decode cX7_stepsByRule 89 = .ok (.if_icmp .ge 27, 3) := by decide +kernel
theorem dX7_stepsByRule_92 : decode cX7_stepsByRule 92 = .ok (.iload 5, 2) := by decide +kernel
theorem dX7_stepsByRule_94 : decode cX7_stepsByRule 94 = .ok (.iload 7, 2) := by decide +kernel
theorem dX7_stepsByRule_96 : decode cX7_stepsByRule 96 = .ok (.aload_n 0, 1) := by decide +kernel
theorem dX7_stepsByRule_97 : decode cX7_stepsByRule 97 = .ok (.iload 6, 2) := by decide +kernel
theorem dX7_stepsByRule_99 : decode cX7_stepsByRule 99 = .ok (.aload_n 1, 1) := by decide +kernel
theorem dX7_stepsByRule_100 : decode cX7_stepsByRule 100 = .ok (.getfield 73, 3) := by decide +kernel
theorem dX7_stepsByRule_103 : decode cX7_stepsByRule 103 = .ok (.iload_n 2, 1) := by decide +kernel
theorem dX7_stepsByRule_104 : decode cX7_stepsByRule 104 = .ok (.iaload, 1) := by decide +kernel
theorem dX7_stepsByRule_105 : decode cX7_stepsByRule 105 = .ok (.invokevirtual 49, 3) := by decide +kernel
theorem dX7_stepsByRule_108 : decode cX7_stepsByRule 108 = .ok (.invokestatic 76, 3) := by decide +kernel
theorem dX7_stepsByRule_111 : decode cX7_stepsByRule 111 = .ok (.invokestatic 79, 3) := by decide +kernel
theorem dX7_stepsByRule_114 : decode cX7_stepsByRule 114 = .ok (.istore 5, 2) := by decide +kernel
theorem dX7_stepsByRule_116 : decode cX7_stepsByRule 116 = .ok (.iinc 6 1, 3) := by decide +kernel
theorem dX7_stepsByRule_119 : decode cX7_stepsByRule 119 = .ok (.goto (-56), 3) := by decide +kernel
theorem dX7_stepsByRule_122 : decode cX7_stepsByRule 122 = .ok (.iload 5, 2) := by decide +kernel
theorem dX7_stepsByRule_124 : decode cX7_stepsByRule 124 = .ok (.ireturn, 1) := by decide +kernel
theorem dX7_stepsThrough_0 : decode cX7_stepsThrough 0 = .ok (.iload_n 1, 1) := by decide +kernel
theorem dX7_stepsThrough_1 : decode cX7_stepsThrough 1 = .ok (.iload_n 2, 1) := by decide +kernel
theorem dX7_stepsThrough_2 : decode cX7_stepsThrough 2 = .ok (.invokestatic 65, 3) := by decide +kernel
theorem dX7_stepsThrough_5 : decode cX7_stepsThrough 5 = .ok (.istore_n 3, 1) := by decide +kernel
theorem dX7_stepsThrough_6 : decode cX7_stepsThrough 6 = .ok (.aload_n 0, 1) := by decide +kernel
theorem dX7_stepsThrough_7 : decode cX7_stepsThrough 7 = .ok (.getfield 32, 3) := by decide +kernel
theorem dX7_stepsThrough_10 : decode cX7_stepsThrough 10 = .ok (.bipush 16, 2) := by decide +kernel
theorem dX7_stepsThrough_12 : decode cX7_stepsThrough 12 = .ok (.imul, 1) := by decide +kernel
theorem dX7_stepsThrough_13 : decode cX7_stepsThrough 13 = .ok (.istore 4, 2) := by decide +kernel
theorem dX7_stepsThrough_15 : decode cX7_stepsThrough 15 = .ok (.ldc 40, 2) := by decide +kernel
theorem dX7_stepsThrough_17 : decode cX7_stepsThrough 17 = .ok (.istore 5, 2) := by decide +kernel
theorem dX7_stepsThrough_19 : decode cX7_stepsThrough 19 = .ok (.iconst 0, 1) := by decide +kernel
theorem dX7_stepsThrough_20 : decode cX7_stepsThrough 20 = .ok (.istore 6, 2) := by decide +kernel
theorem dX7_stepsThrough_22 : decode cX7_stepsThrough 22 = .ok (.iload 6, 2) := by decide +kernel
theorem dX7_stepsThrough_24 : decode cX7_stepsThrough 24 = .ok (.bipush 16, 2) := by decide +kernel
theorem dX7_stepsThrough_26 : decode cX7_stepsThrough 26 = .ok (.if_icmp .ge 58, 3) := by decide +kernel
theorem dX7_stepsThrough_29 : decode cX7_stepsThrough 29 = .ok (.aload_n 0, 1) := by decide +kernel
theorem dX7_stepsThrough_30 : decode cX7_stepsThrough 30 = .ok (.getfield 9, 3) := by decide +kernel
theorem dX7_stepsThrough_33 : decode cX7_stepsThrough 33 = .ok (.getfield 70, 3) := by decide +kernel
theorem dX7_stepsThrough_36 : decode cX7_stepsThrough 36 = .ok (.iload_n 3, 1) := by decide +kernel
theorem dX7_stepsThrough_37 : decode cX7_stepsThrough 37 = .ok (.iload 6, 2) := by decide +kernel
theorem dX7_stepsThrough_39 : decode cX7_stepsThrough 39 = .ok (.iadd, 1) := by decide +kernel
theorem dX7_stepsThrough_40 : decode cX7_stepsThrough 40 = .ok (.iaload, 1) := by decide +kernel
theorem dX7_stepsThrough_41 : decode cX7_stepsThrough 41 = .ok (.iload 5, 2) := by decide +kernel
theorem dX7_stepsThrough_43 : decode cX7_stepsThrough 43 = .ok (.if_icmp .ge 35, 3) := by decide +kernel
theorem dX7_stepsThrough_46 : decode cX7_stepsThrough 46 = .ok (.iload 5, 2) := by decide +kernel
theorem dX7_stepsThrough_48 : decode cX7_stepsThrough 48 = .ok (.aload_n 0, 1) := by decide +kernel
theorem dX7_stepsThrough_49 : decode cX7_stepsThrough 49 = .ok (.getfield 9, 3) := by decide +kernel
theorem dX7_stepsThrough_52 : decode cX7_stepsThrough 52 = .ok (.getfield 70, 3) := by decide +kernel
theorem dX7_stepsThrough_55 : decode cX7_stepsThrough 55 = .ok (.iload_n 3, 1) := by decide +kernel
theorem dX7_stepsThrough_56 : decode cX7_stepsThrough 56 = .ok (.iload 6, 2) := by decide +kernel
theorem dX7_stepsThrough_58 : decode cX7_stepsThrough 58 = .ok (.iadd, 1) := by decide +kernel
theorem dX7_stepsThrough_59 : decode cX7_stepsThrough 59 = .ok (.iaload, 1) := by decide +kernel
theorem dX7_stepsThrough_60 : decode cX7_stepsThrough 60 = .ok (.aload_n 0, 1) := by decide +kernel
theorem dX7_stepsThrough_61 : decode cX7_stepsThrough 61 = .ok (.getfield 29, 3) := by decide +kernel
theorem dX7_stepsThrough_64 : decode cX7_stepsThrough 64 = .ok (.iload 4, 2) := by decide +kernel
theorem dX7_stepsThrough_66 : decode cX7_stepsThrough 66 = .ok (.iload 6, 2) := by decide +kernel
theorem dX7_stepsThrough_68 : decode cX7_stepsThrough 68 = .ok (.iadd, 1) := by decide +kernel
theorem dX7_stepsThrough_69 : decode cX7_stepsThrough 69 = .ok (.iaload, 1) := by decide +kernel
theorem dX7_stepsThrough_70 : decode cX7_stepsThrough 70 = .ok (.invokestatic 76, 3) := by decide +kernel
theorem dX7_stepsThrough_73 : decode cX7_stepsThrough 73 = .ok (.invokestatic 79, 3) := by decide +kernel
theorem dX7_stepsThrough_76 : decode cX7_stepsThrough 76 = .ok (.istore 5, 2) := by decide +kernel
theorem dX7_stepsThrough_78 : decode cX7_stepsThrough 78 = .ok (.iinc 6 1, 3) := by decide +kernel
theorem dX7_stepsThrough_81 : decode cX7_stepsThrough 81 = .ok (.goto (-59), 3) := by decide +kernel
theorem dX7_stepsThrough_84 : decode cX7_stepsThrough 84 = .ok (.iload 5, 2) := by decide +kernel
theorem dX7_stepsThrough_86 : decode cX7_stepsThrough 86 = .ok (.ireturn, 1) := by decide +kernel
theorem dX8_init_0 : decode cX8_init 0 = .ok (.aload_n 0, 1) := by decide +kernel
theorem dX8_init_1 : decode cX8_init 1 = .ok (.invokespecial 3, 3) := by decide +kernel
theorem dX8_init_4 : decode cX8_init 4 = .ok (.aload_n 0, 1) := by decide +kernel
theorem dX8_init_5 : decode cX8_init 5 = .ok (.sipush 2000, 3) := by decide +kernel
theorem dX8_init_8 : decode cX8_init 8 = .ok (.newarray .int, 2) := by decide +kernel
theorem dX8_init_10 : decode cX8_init 10 = .ok (.putfield 9, 3) := by decide +kernel
theorem dX8_init_13 : decode cX8_init 13 = .ok (.aload_n 0, 1) := by decide +kernel
theorem dX8_init_14 : decode cX8_init 14 = .ok (.sipush 2000, 3) := by decide +kernel
theorem dX8_init_17 : decode cX8_init 17 = .ok (.newarray .int, 2) := by decide +kernel
theorem dX8_init_19 : decode cX8_init 19 = .ok (.putfield 15, 3) := by decide +kernel
theorem dX8_init_22 : decode cX8_init 22 = .ok (.aload_n 0, 1) := by decide +kernel
theorem dX8_init_23 : decode cX8_init 23 = .ok (.sipush 2000, 3) := by decide +kernel
theorem dX8_init_26 : decode cX8_init 26 = .ok (.newarray .int, 2) := by decide +kernel
theorem dX8_init_28 : decode cX8_init 28 = .ok (.putfield 18, 3) := by decide +kernel
theorem dX8_init_31 : decode cX8_init 31 = .ok (.aload_n 0, 1) := by decide +kernel
theorem dX8_init_32 : decode cX8_init 32 = .ok (.sipush 2000, 3) := by decide +kernel
theorem dX8_init_35 : decode cX8_init 35 = .ok (.newarray .int, 2) := by decide +kernel
theorem dX8_init_37 : decode cX8_init 37 = .ok (.putfield 21, 3) := by decide +kernel
theorem dX8_init_40 : decode cX8_init 40 = .ok (.aload_n 0, 1) := by decide +kernel
theorem dX8_init_41 : decode cX8_init 41 = .ok (.sipush 2001, 3) := by decide +kernel
theorem dX8_init_44 : decode cX8_init 44 = .ok (.newarray .int, 2) := by decide +kernel
theorem dX8_init_46 : decode cX8_init 46 = .ok (.putfield 24, 3) := by decide +kernel
theorem dX8_init_49 : decode cX8_init 49 = .ok (.aload_n 0, 1) := by decide +kernel
theorem dX8_init_50 : decode cX8_init 50 = .ok (.sipush 2001, 3) := by decide +kernel
theorem dX8_init_53 : decode cX8_init 53 = .ok (.newarray .int, 2) := by decide +kernel
theorem dX8_init_55 : decode cX8_init 55 = .ok (.putfield 27, 3) := by decide +kernel
theorem dX8_init_58 : decode cX8_init 58 = .ok (.aload_n 0, 1) := by decide +kernel
theorem dX8_init_59 : decode cX8_init 59 = .ok (.sipush 16008, 3) := by decide +kernel
theorem dX8_init_62 : decode cX8_init 62 = .ok (.newarray .int, 2) := by decide +kernel
theorem dX8_init_64 : decode cX8_init 64 = .ok (.putfield 32, 3) := by decide +kernel
theorem dX8_init_67 : decode cX8_init 67 = .ok (.aload_n 0, 1) := by decide +kernel
theorem dX8_init_68 : decode cX8_init 68 = .ok (.aload_n 1, 1) := by decide +kernel
theorem dX8_init_69 : decode cX8_init 69 = .ok (.putfield 35, 3) := by decide +kernel
theorem dX8_init_72 : decode cX8_init 72 = .ok (.aload_n 0, 1) := by decide +kernel
theorem dX8_init_73 : decode cX8_init 73 = .ok (.aload_n 2, 1) := by decide +kernel
theorem dX8_init_74 : decode cX8_init 74 = .ok (.putfield 39, 3) := by decide +kernel
theorem dX8_init_77 : decode cX8_init 77 = .ok (.return_, 1) := by decide +kernel
theorem dX8_forget_0 : decode cX8_forget 0 = .ok (.aload_n 0, 1) := by decide +kernel
theorem dX8_forget_1 : decode cX8_forget 1 = .ok (.iconst 0, 1) := by decide +kernel
theorem dX8_forget_2 : decode cX8_forget 2 = .ok (.putfield 43, 3) := by decide +kernel
theorem dX8_forget_5 : decode cX8_forget 5 = .ok (.return_, 1) := by decide +kernel
theorem dX8_aboutStep_0 : decode cX8_aboutStep 0 = .ok (.iload_n 1, 1) := by decide +kernel
theorem dX8_aboutStep_1 : decode cX8_aboutStep 1 = .ok (.ifCond .lt 11, 3) := by decide +kernel
theorem dX8_aboutStep_4 : decode cX8_aboutStep 4 = .ok (.iload_n 1, 1) := by decide +kernel
theorem dX8_aboutStep_5 : decode cX8_aboutStep 5 = .ok (.aload_n 0, 1) := by decide +kernel
theorem dX8_aboutStep_6 : decode cX8_aboutStep 6 = .ok (.getfield 43, 3) := by decide +kernel
theorem dX8_aboutStep_9 : decode cX8_aboutStep 9 = .ok (.if_icmp .lt 5, 3) := by decide +kernel
theorem dX8_aboutStep_12 : decode cX8_aboutStep 12 = .ok (.iconst (-1), 1) := by decide +kernel
theorem dX8_aboutStep_13 : decode cX8_aboutStep 13 = .ok (.ireturn, 1) := by decide +kernel
theorem dX8_aboutStep_14 : decode cX8_aboutStep 14 = .ok (.iload_n 2, 1) := by decide +kernel
theorem dX8_aboutStep_15 : decode cX8_aboutStep 15 = .ok (.tableswitch 62 0 3 #[29, 36, 43, 53], 29) := by decide +kernel
theorem dX8_aboutStep_44 : decode cX8_aboutStep 44 = .ok (.aload_n 0, 1) := by decide +kernel
theorem dX8_aboutStep_45 : decode cX8_aboutStep 45 = .ok (.getfield 9, 3) := by decide +kernel
theorem dX8_aboutStep_48 : decode cX8_aboutStep 48 = .ok (.iload_n 1, 1) := by decide +kernel
theorem dX8_aboutStep_49 : decode cX8_aboutStep 49 = .ok (.iaload, 1) := by decide +kernel
theorem dX8_aboutStep_50 : decode cX8_aboutStep 50 = .ok (.ireturn, 1) := by decide +kernel
theorem dX8_aboutStep_51 : decode cX8_aboutStep 51 = .ok (.aload_n 0, 1) := by decide +kernel
theorem dX8_aboutStep_52 : decode cX8_aboutStep 52 = .ok (.getfield 15, 3) := by decide +kernel
theorem dX8_aboutStep_55 : decode cX8_aboutStep 55 = .ok (.iload_n 1, 1) := by decide +kernel
theorem dX8_aboutStep_56 : decode cX8_aboutStep 56 = .ok (.iaload, 1) := by decide +kernel
theorem dX8_aboutStep_57 : decode cX8_aboutStep 57 = .ok (.ireturn, 1) := by decide +kernel
theorem dX8_aboutStep_58 : decode cX8_aboutStep 58 = .ok (.aload_n 0, 1) := by decide +kernel
theorem dX8_aboutStep_59 : decode cX8_aboutStep 59 = .ok (.getfield 18, 3) := by decide +kernel
theorem dX8_aboutStep_62 : decode cX8_aboutStep 62 = .ok (.iload_n 1, 1) := by decide +kernel
theorem dX8_aboutStep_63 : decode cX8_aboutStep 63 = .ok (.iaload, 1) := by decide +kernel
theorem dX8_aboutStep_64 : decode cX8_aboutStep 64 = .ok (.bipush 7, 2) := by decide +kernel
theorem dX8_aboutStep_66 : decode cX8_aboutStep 66 = .ok (.iand, 1) := by decide +kernel
theorem dX8_aboutStep_67 : decode cX8_aboutStep 67 = .ok (.ireturn, 1) := by decide +kernel
theorem dX8_aboutStep_68 : decode cX8_aboutStep 68 = .ok (.aload_n 0, 1) := by decide +kernel
theorem dX8_aboutStep_69 : decode cX8_aboutStep 69 = .ok (.getfield 18, 3) := by decide +kernel
theorem dX8_aboutStep_72 : decode cX8_aboutStep 72 = .ok (.iload_n 1, 1) := by decide +kernel
theorem dX8_aboutStep_73 : decode cX8_aboutStep 73 = .ok (.iaload, 1) := by decide +kernel
theorem dX8_aboutStep_74 : decode cX8_aboutStep 74 = .ok (.iconst 3, 1) := by decide +kernel
theorem dX8_aboutStep_75 : decode cX8_aboutStep 75 = .ok (.iushr, 1) := by decide +kernel
theorem dX8_aboutStep_76 : decode cX8_aboutStep 76 = .ok (.ireturn, 1) := by decide +kernel
theorem dX8_aboutStep_77 : decode cX8_aboutStep 77 = .ok (.aload_n 0, 1) := by decide +kernel
theorem dX8_aboutStep_78 : decode cX8_aboutStep 78 = .ok (.getfield 21, 3) := by decide +kernel
theorem dX8_aboutStep_81 : decode cX8_aboutStep 81 = .ok (.iload_n 1, 1) := by decide +kernel
theorem dX8_aboutStep_82 : decode cX8_aboutStep 82 = .ok (.iaload, 1) := by decide +kernel
theorem dX8_aboutStep_83 : decode cX8_aboutStep 83 = .ok (.ireturn, 1) := by decide +kernel
theorem dX8_record_0 : decode cX8_record 0 = .ok (.aload_n 0, 1) := by decide +kernel
theorem dX8_record_1 : decode cX8_record 1 = .ok (.iconst 0, 1) := by decide +kernel
theorem dX8_record_2 : decode cX8_record 2 = .ok (.putfield 43, 3) := by decide +kernel
theorem dX8_record_5 : decode cX8_record 5 = .ok (.aload_n 0, 1) := by decide +kernel
theorem dX8_record_6 : decode cX8_record 6 = .ok (.iconst 0, 1) := by decide +kernel
theorem dX8_record_7 : decode cX8_record 7 = .ok (.putfield 47, 3) := by decide +kernel
theorem dX8_record_10 : decode cX8_record 10 = .ok (.aload_n 0, 1) := by decide +kernel
theorem dX8_record_11 : decode cX8_record 11 = .ok (.aload_n 0, 1) := by decide +kernel
theorem dX8_record_12 : decode cX8_record 12 = .ok (.getfield 35, 3) := by decide +kernel
theorem dX8_record_15 : decode cX8_record 15 = .ok (.invokevirtual 50, 3) := by decide +kernel
theorem dX8_record_18 : decode cX8_record 18 = .ok (.putfield 54, 3) := by decide +kernel
theorem dX8_record_21 : decode cX8_record 21 = .ok (.aload_n 0, 1) := by decide +kernel
theorem dX8_record_22 : decode cX8_record 22 = .ok (.iconst 0, 1) := by decide +kernel
theorem dX8_record_23 : decode cX8_record 23 = .ok (.putfield 57, 3) := by decide +kernel
theorem dX8_record_26 : decode cX8_record 26 = .ok (.iconst 0, 1) := by decide +kernel
theorem dX8_record_27 : decode cX8_record 27 = .ok (.istore_n 2, 1) := by decide +kernel
theorem dX8_record_28 : decode cX8_record 28 = .ok (.iload_n 2, 1) := by decide +kernel
theorem dX8_record_29 : decode cX8_record 29 = .ok (.bipush 8, 2) := by decide +kernel
theorem dX8_record_31 : decode cX8_record 31 = .ok (.if_icmp .ge 17, 3) := by decide +kernel
theorem dX8_record_34 : decode cX8_record 34 = .ok (.aload_n 0, 1) := by decide +kernel
theorem dX8_record_35 : decode cX8_record 35 = .ok (.getfield 32, 3) := by decide +kernel
theorem dX8_record_38 : decode cX8_record 38 = .ok (.iload_n 2, 1) := by decide +kernel
theorem dX8_record_39 : decode cX8_record 39 = .ok (.ldc 60, 2) := by decide +kernel
theorem dX8_record_41 : decode cX8_record 41 = .ok (.iastore, 1) := by decide +kernel
theorem dX8_record_42 : decode cX8_record 42 = .ok (.iinc 2 1, 3) := by decide +kernel
theorem dX8_record_45 : decode cX8_record 45 = .ok (.goto (-17), 3) := by decide +kernel
theorem dX8_record_48 : decode cX8_record 48 = .ok (.iconst 0, 1) := by decide +kernel
theorem dX8_record_49 : decode cX8_record 49 = .ok (.istore_n 2, 1) := by decide +kernel
theorem dX8_record_50 : decode cX8_record 50 = .ok (.iload_n 2, 1) := by decide +kernel
theorem dX8_record_51 : decode cX8_record 51 = .ok (.iload_n 1, 1) := by decide +kernel
theorem dX8_record_52 : decode cX8_record 52 = .ok (.if_icmp .ge 113, 3) := by decide +kernel
theorem dX8_record_55 : decode cX8_record 55 = .ok (.iload_n 2, 1) := by decide +kernel
theorem dX8_record_56 : decode cX8_record 56 = .ok (.sipush 2000, 3) := by decide +kernel
theorem dX8_record_59 : decode cX8_record 59 = .ok (.if_icmp .ge 106, 3) := by decide +kernel
theorem dX8_record_62 : decode cX8_record 62 = .ok (.aload_n 0, 1) := by decide +kernel
theorem dX8_record_63 : decode cX8_record 63 = .ok (.getfield 54, 3) := by decide +kernel
theorem dX8_record_66 : decode cX8_record 66 = .ok (.ifCond .lt 99, 3) := by decide +kernel
theorem dX8_record_69 : decode cX8_record 69 = .ok (.aload_n 0, 1) := by decide +kernel
theorem dX8_record_70 : decode cX8_record 70 = .ok (.getfield 9, 3) := by decide +kernel
theorem dX8_record_73 : decode cX8_record 73 = .ok (.iload_n 2, 1) := by decide +kernel
theorem dX8_record_74 : decode cX8_record 74 = .ok (.aload_n 0, 1) := by decide +kernel
theorem dX8_record_75 : decode cX8_record 75 = .ok (.getfield 54, 3) := by decide +kernel
theorem dX8_record_78 : decode cX8_record 78 = .ok (.iastore, 1) := by decide +kernel
theorem dX8_record_79 : decode cX8_record 79 = .ok (.aload_n 0, 1) := by decide +kernel
theorem dX8_record_80 : decode cX8_record 80 = .ok (.getfield 15, 3) := by decide +kernel
theorem dX8_record_83 : decode cX8_record 83 = .ok (.iload_n 2, 1) := by decide +kernel
theorem dX8_record_84 : decode cX8_record 84 = .ok (.aload_n 0, 1) := by decide +kernel
theorem dX8_record_85 : decode cX8_record 85 = .ok (.getfield 47, 3) := by decide +kernel
theorem dX8_record_88 : decode cX8_record 88 = .ok (.iconst 1, 1) := by decide +kernel
theorem dX8_record_89 : decode cX8_record 89 = .ok (.iadd, 1) := by decide +kernel
theorem dX8_record_90 : decode cX8_record 90 = .ok (.iastore, 1) := by decide +kernel
theorem dX8_record_91 : decode cX8_record 91 = .ok (.aload_n 0, 1) := by decide +kernel
theorem dX8_record_92 : decode cX8_record 92 = .ok (.getfield 18, 3) := by decide +kernel
theorem dX8_record_95 : decode cX8_record 95 = .ok (.iload_n 2, 1) := by decide +kernel
theorem dX8_record_96 : decode cX8_record 96 = .ok (.aload_n 0, 1) := by decide +kernel
theorem dX8_record_97 : decode cX8_record 97 = .ok (.getfield 57, 3) := by decide +kernel
theorem dX8_record_100 : decode cX8_record 100 = .ok (.iastore, 1) := by decide +kernel
theorem dX8_record_101 : decode cX8_record 101 = .ok (.aload_n 0, 1) := by decide +kernel
theorem dX8_record_102 : decode cX8_record 102 = .ok (.getfield 21, 3) := by decide +kernel
theorem dX8_record_105 : decode cX8_record 105 = .ok (.iload_n 2, 1) := by decide +kernel
theorem dX8_record_106 : decode cX8_record 106 = .ok (.iconst (-1), 1) := by decide +kernel
theorem dX8_record_107 : decode cX8_record 107 = .ok (.iastore, 1) := by decide +kernel
theorem dX8_record_108 : decode cX8_record 108 = .ok (.aload_n 0, 1) := by decide +kernel
theorem dX8_record_109 : decode cX8_record 109 = .ok (.dup, 1) := by decide +kernel
theorem dX8_record_110 : decode cX8_record 110 = .ok (.getfield 43, 3) := by decide +kernel
theorem dX8_record_113 : decode cX8_record 113 = .ok (.iconst 1, 1) := by decide +kernel
theorem dX8_record_114 : decode cX8_record 114 = .ok (.iadd, 1) := by decide +kernel
theorem dX8_record_115 : decode cX8_record 115 = .ok (.putfield 43, 3) := by decide +kernel
theorem dX8_record_118 : decode cX8_record 118 = .ok (.aload_n 0, 1) := by decide +kernel
theorem dX8_record_119 : decode cX8_record 119 = .ok (.getfield 35, 3) := by decide +kernel
theorem dX8_record_122 : decode cX8_record 122 = .ok (.getfield 61, 3) := by decide +kernel
theorem dX8_record_125 : decode cX8_record 125 = .ok (.aload_n 0, 1) := by decide +kernel
theorem dX8_record_126 : decode cX8_record 126 = .ok (.getfield 54, 3) := by decide +kernel
theorem dX8_record_129 : decode cX8_record 129 = .ok (.iaload, 1) := by decide +kernel
theorem dX8_record_130 : decode cX8_record 130 = .ok (.iconst 3, 1) := by decide +kernel
theorem dX8_record_131 : decode cX8_record 131 = .ok (.if_icmp .ne 14, 3) := by decide +kernel
theorem dX8_record_134 : decode cX8_record 134 = .ok (.aload_n 0, 1) := by decide +kernel
theorem dX8_record_135 : decode cX8_record 135 = .ok (.aload_n 0, 1) := by decide +kernel
theorem dX8_record_136 : decode cX8_record 136 = .ok (.getfield 54, 3) := by decide +kernel
theorem dX8_record_139 : decode cX8_record 139 = .ok (.invokevirtual 64, 3) := by decide +kernel
theorem dX8_record_142 : decode cX8_record 142 = .ok (.goto 13, 3) := by decide +kernel
theorem dX8_record_145 : decode cX8_record 145 = .ok (.aload_n 0, 1) := by decide +kernel
theorem dX8_record_146 : decode cX8_record 146 = .ok (.iload_n 2, 1) := by decide +kernel
theorem dX8_record_147 : decode cX8_record 147 = .ok (.iload_n 1, 1) := by decide +kernel
theorem dX8_record_148 : decode cX8_record 148 = .ok (.iload_n 2, 1) := by decide +kernel
theorem dX8_record_149 : decode cX8_record 149 = .ok (.isub, 1) := by decide +kernel
theorem dX8_record_150 : decode cX8_record 150 = .ok (.iconst 1, 1) := by decide +kernel
theorem dX8_record_151 : decode cX8_record 151 = .ok (.isub, 1) := by decide +kernel
theorem dX8_record_152 : decode cX8_record 152 = .ok (.invokevirtual 68, 3) := by decide +kernel
theorem dX8_record_155 : decode cX8_record 155 = .ok (.aload_n 0, 1) := by decide +kernel
theorem dX8_record_156 : decode cX8_record 156 = .ok (.invokevirtual 72, 3) := by decide +kernel
theorem dX8_record_159 : decode cX8_record 159 = .ok (.iinc 2 1, 3) := by decide +kernel
theorem dX8_record_162 : decode cX8_record 162 = .ok (.goto (-112), 3) := by decide +kernel
theorem dX8_record_165 : decode cX8_record 165 = .ok (.return_, 1) := by decide +kernel
theorem dX8_takeStep_0 : decode cX8_takeStep 0 = .ok (.aload_n 0, 1) := by decide +kernel
theorem dX8_takeStep_1 : decode cX8_takeStep 1 = .ok (.getfield 54, 3) := by decide +kernel
theorem dX8_takeStep_4 : decode cX8_takeStep 4 = .ok (.istore_n 3, 1) := by decide +kernel
theorem dX8_takeStep_5 : decode cX8_takeStep 5 = .ok (.iconst 0, 1) := by decide +kernel
theorem dX8_takeStep_6 : decode cX8_takeStep 6 = .ok (.istore 4, 2) := by decide +kernel
theorem dX8_takeStep_8 : decode cX8_takeStep 8 = .ok (.iload 4, 2) := by decide +kernel
theorem dX8_takeStep_10 : decode cX8_takeStep 10 = .ok (.iconst 1, 1) := by decide +kernel
theorem dX8_takeStep_11 : decode cX8_takeStep 11 = .ok (.if_icmp .gt 121, 3) := by decide +kernel
theorem dX8_takeStep_14 : decode cX8_takeStep 14 = .ok (.aload_n 0, 1) := by decide +kernel
theorem dX8_takeStep_15 : decode cX8_takeStep 15 = .ok (.getfield 35, 3) := by decide +kernel
theorem dX8_takeStep_18 : decode cX8_takeStep 18 = .ok (.iload_n 3, 1) := by decide +kernel
theorem dX8_takeStep_19 : decode cX8_takeStep 19 = .ok (.iload 4, 2) := by decide +kernel
theorem dX8_takeStep_21 : decode cX8_takeStep 21 = .ok (.invokevirtual 75, 3) := by decide +kernel
theorem dX8_takeStep_24 : decode cX8_takeStep 24 = .ok (.aload_n 0, 1) := by decide +kernel
theorem dX8_takeStep_25 : decode cX8_takeStep 25 = .ok (.getfield 57, 3) := by decide +kernel
theorem dX8_takeStep_28 : decode cX8_takeStep 28 = .ok (.iushr, 1) := by decide +kernel
theorem dX8_takeStep_29 : decode cX8_takeStep 29 = .ok (.iconst 1, 1) := by decide +kernel
theorem dX8_takeStep_30 : decode cX8_takeStep 30 = .ok (.iand, 1) := by decide +kernel
theorem dX8_takeStep_31 : decode cX8_takeStep 31 = .ok (.ifCond .eq 7, 3) := by decide +kernel
theorem dX8_takeStep_34 : decode cX8_takeStep 34 = .ok (.iconst 1, 1) := by decide +kernel
theorem dX8_takeStep_35 : decode cX8_takeStep 35 = .ok (.goto 4, 3) := by decide +kernel
theorem dX8_takeStep_38 : decode cX8_takeStep 38 = .ok (.iconst 0, 1) := by decide +kernel
theorem dX8_takeStep_39 : decode cX8_takeStep 39 = .ok (.istore 5, 2) := by decide +kernel
theorem dX8_takeStep_41 : decode cX8_takeStep 41 = .ok (.aload_n 0, 1) := by decide +kernel
theorem dX8_takeStep_42 : decode cX8_takeStep 42 = .ok (.getfield 35, 3) := by decide +kernel
theorem dX8_takeStep_45 : decode cX8_takeStep 45 = .ok (.iload_n 3, 1) := by decide +kernel
theorem dX8_takeStep_46 : decode cX8_takeStep 46 = .ok (.aload_n 0, 1) := by decide +kernel
theorem dX8_takeStep_47 : decode cX8_takeStep 47 = .ok (.getfield 57, 3) := by decide +kernel
theorem dX8_takeStep_50 : decode cX8_takeStep 50 = .ok (.iload 4, 2) := by decide +kernel
theorem dX8_takeStep_52 : decode cX8_takeStep 52 = .ok (.invokevirtual 79, 3) := by decide +kernel
theorem dX8_takeStep_55 : decode cX8_takeStep 55 = .ok (.istore 6, 2) := by decide +kernel
theorem dX8_takeStep_57 : decode cX8_takeStep 57 = .ok (.iload 5, 2) := by decide +kernel
theorem dX8_takeStep_59 : decode cX8_takeStep 59 = .ok (.ifCond .eq 67, 3) := by decide +kernel
theorem dX8_takeStep_62 : decode cX8_takeStep 62 = .ok (.aload_n 0, 1) := by decide +kernel
theorem dX8_takeStep_63 : decode cX8_takeStep 63 = .ok (.aload_n 0, 1) := by decide +kernel
theorem dX8_takeStep_64 : decode cX8_takeStep 64 = .ok (.getfield 35, 3) := by decide +kernel
theorem dX8_takeStep_67 : decode cX8_takeStep 67 = .ok (.iload_n 3, 1) := by decide +kernel
theorem dX8_takeStep_68 : decode cX8_takeStep 68 = .ok (.iload 4, 2) := by decide +kernel
theorem dX8_takeStep_70 : decode cX8_takeStep 70 = .ok (.invokevirtual 83, 3) := by decide +kernel
theorem dX8_takeStep_73 : decode cX8_takeStep 73 = .ok (.iload 6, 2) := by decide +kernel
theorem dX8_takeStep_75 : decode cX8_takeStep 75 = .ok (.invokevirtual 86, 3) := by decide +kernel
theorem dX8_takeStep_78 : decode cX8_takeStep 78 = .ok (.iload_n 2, 1) := by decide +kernel
theorem dX8_takeStep_79 : decode cX8_takeStep 79 = .ok (.if_icmp .ne 47, 3) := by decide +kernel
theorem dX8_takeStep_82 : decode cX8_takeStep 82 = .ok (.aload_n 0, 1) := by decide +kernel
theorem dX8_takeStep_83 : decode cX8_takeStep 83 = .ok (.getfield 21, 3) := by decide +kernel
theorem dX8_takeStep_86 : decode cX8_takeStep 86 = .ok (.iload_n 1, 1) := by decide +kernel
theorem dX8_takeStep_87 : decode cX8_takeStep 87 = .ok (.aload_n 0, 1) := by decide +kernel
theorem dX8_takeStep_88 : decode cX8_takeStep 88 = .ok (.getfield 35, 3) := by decide +kernel
theorem dX8_takeStep_91 : decode cX8_takeStep 91 = .ok (.iload_n 3, 1) := by decide +kernel
theorem dX8_takeStep_92 : decode cX8_takeStep 92 = .ok (.invokevirtual 89, 3) := by decide +kernel
theorem dX8_takeStep_95 : decode cX8_takeStep 95 = .ok (.ifCond .eq 8, 3) := by decide +kernel
theorem dX8_takeStep_98 : decode cX8_takeStep 98 = .ok (.iload 4, 2) := by decide +kernel
theorem dX8_takeStep_100 : decode cX8_takeStep 100 = .ok (.goto 4, 3) := by decide +kernel
theorem dX8_takeStep_103 : decode cX8_takeStep 103 = .ok (.iconst (-1), 1) := by decide +kernel
theorem dX8_takeStep_104 : decode cX8_takeStep 104 = .ok (.iastore, 1) := by decide +kernel
theorem dX8_takeStep_105 : decode cX8_takeStep 105 = .ok (.aload_n 0, 1) := by decide +kernel
theorem dX8_takeStep_106 : decode cX8_takeStep 106 = .ok (.iload 6, 2) := by decide +kernel
theorem dX8_takeStep_108 : decode cX8_takeStep 108 = .ok (.putfield 57, 3) := by decide +kernel
theorem dX8_takeStep_111 : decode cX8_takeStep 111 = .ok (.aload_n 0, 1) := by decide +kernel
theorem dX8_takeStep_112 : decode cX8_takeStep 112 = .ok (.aload_n 0, 1) := by decide +kernel
theorem dX8_takeStep_113 : decode cX8_takeStep 113 = .ok (.getfield 35, 3) := by decide +kernel
theorem dX8_takeStep_116 : decode cX8_takeStep 116 = .ok (.iload_n 3, 1) := by decide +kernel
theorem dX8_takeStep_117 : decode cX8_takeStep 117 = .ok (.iload 4, 2) := by decide +kernel
theorem dX8_takeStep_119 : decode cX8_takeStep 119 = .ok (.invokevirtual 83, 3) := by decide +kernel
theorem dX8_takeStep_122 : decode cX8_takeStep 122 = .ok (.putfield 54, 3) := by decide +kernel
theorem dX8_takeStep_125 : decode cX8_takeStep 125 = .ok (.return_, 1) := by decide +kernel
theorem dX8_takeStep_126 : decode cX8_takeStep 126 = .ok (.iinc 4 1, 3) := by decide +kernel
theorem dX8_takeStep_129 : decode cX8_takeStep 129 = .ok (.goto (-121), 3) := by decide +kernel
theorem dX8_takeStep_132 : decode cX8_takeStep 132 = .ok (.aload_n 0, 1) := by decide +kernel
theorem dX8_takeStep_133 : decode cX8_takeStep 133 = .ok (.bipush (-3), 2) := by decide +kernel
theorem dX8_takeStep_135 : decode cX8_takeStep 135 = .ok (.putfield 54, 3) := by decide +kernel
theorem dX8_takeStep_138 : decode cX8_takeStep 138 = .ok (.return_, 1) := by decide +kernel
theorem dX8_stepsToFail_0 : decode cX8_stepsToFail 0 = .ok (.aload_n 0, 1) := by decide +kernel
theorem dX8_stepsToFail_1 : decode cX8_stepsToFail 1 = .ok (.getfield 47, 3) := by decide +kernel
theorem dX8_stepsToFail_4 : decode cX8_stepsToFail 4 = .ok (.bipush 8, 2) := by decide +kernel
theorem dX8_stepsToFail_6 : decode cX8_stepsToFail 6 = .ok (.imul, 1) := by decide +kernel
theorem dX8_stepsToFail_7 : decode cX8_stepsToFail 7 = .ok (.istore_n 3, 1) := by decide +kernel
theorem dX8_stepsToFail_8 : decode cX8_stepsToFail 8 = .ok (.iload_n 1, 1) := by decide +kernel
theorem dX8_stepsToFail_9 : decode cX8_stepsToFail 9 = .ok (.iconst (-1), 1) := by decide +kernel
theorem dX8_stepsToFail_10 : decode cX8_stepsToFail 10 = .ok (.if_icmp .ne 15, 3) := by decide +kernel
theorem dX8_stepsToFail_13 : decode cX8_stepsToFail 13 = .ok (.aload_n 0, 1) := by decide +kernel
theorem dX8_stepsToFail_14 : decode cX8_stepsToFail 14 = .ok (.getfield 32, 3) := by decide +kernel
theorem dX8_stepsToFail_17 : decode cX8_stepsToFail 17 = .ok (.iload_n 3, 1) := by decide +kernel
theorem dX8_stepsToFail_18 : decode cX8_stepsToFail 18 = .ok (.iload_n 2, 1) := by decide +kernel
theorem dX8_stepsToFail_19 : decode cX8_stepsToFail 19 = .ok (.bipush 7, 2) := by decide +kernel
theorem dX8_stepsToFail_21 : decode cX8_stepsToFail 21 = .ok (.iand, 1) := by decide +kernel
theorem dX8_stepsToFail_22 : decode cX8_stepsToFail 22 = .ok (.iadd, 1) := by decide +kernel
theorem dX8_stepsToFail_23 : decode cX8_stepsToFail 23 = .ok (.iaload, 1) := by decide +kernel
theorem dX8_stepsToFail_24 : decode cX8_stepsToFail 24 = .ok (.ireturn, 1) := by decide +kernel
theorem dX8_stepsToFail_25 : decode cX8_stepsToFail 25 = .ok (.iload_n 1, 1) := by decide +kernel
theorem dX8_stepsToFail_26 : decode cX8_stepsToFail 26 = .ok (.ifCond .ge 16, 3) := by decide +kernel
theorem dX8_stepsToFail_29 : decode cX8_stepsToFail 29 = .ok (.iload_n 1, 1) := by decide +kernel
theorem dX8_stepsToFail_30 : decode cX8_stepsToFail 30 = .ok (.bipush (-2), 2) := by decide +kernel
theorem dX8_stepsToFail_32 : decode cX8_stepsToFail 32 = .ok (.if_icmp .ne 7, 3) := by decide +kernel
theorem dX8_stepsToFail_35 : decode cX8_stepsToFail 35 = .ok (.iconst 0, 1) := by decide +kernel
theorem dX8_stepsToFail_36 : decode cX8_stepsToFail 36 = .ok (.goto 5, 3) := by decide +kernel
theorem dX8_stepsToFail_39 : decode cX8_stepsToFail 39 = .ok (.ldc 60, 2) := by decide +kernel
theorem dX8_stepsToFail_41 : decode cX8_stepsToFail 41 = .ok (.ireturn, 1) := by decide +kernel
theorem dX8_stepsToFail_42 : decode cX8_stepsToFail 42 = .ok (.iload_n 1, 1) := by decide +kernel
theorem dX8_stepsToFail_43 : decode cX8_stepsToFail 43 = .ok (.iload_n 2, 1) := by decide +kernel
theorem dX8_stepsToFail_44 : decode cX8_stepsToFail 44 = .ok (.invokestatic 93, 3) := by decide +kernel
theorem dX8_stepsToFail_47 : decode cX8_stepsToFail 47 = .ok (.istore 4, 2) := by decide +kernel
theorem dX8_stepsToFail_49 : decode cX8_stepsToFail 49 = .ok (.aload_n 0, 1) := by decide +kernel
theorem dX8_stepsToFail_50 : decode cX8_stepsToFail 50 = .ok (.getfield 39, 3) := by decide +kernel
theorem dX8_stepsToFail_53 : decode cX8_stepsToFail 53 = .ok (.getfield 98, 3) := by decide +kernel
theorem dX8_stepsToFail_56 : decode cX8_stepsToFail 56 = .ok (.iload 4, 2) := by decide +kernel
theorem dX8_stepsToFail_58 : decode cX8_stepsToFail 58 = .ok (.bipush 8, 2) := by decide +kernel
theorem dX8_stepsToFail_60 : decode cX8_stepsToFail 60 = .ok (.iadd, 1) := by decide +kernel
theorem dX8_stepsToFail_61 : decode cX8_stepsToFail 61 = .ok (.iaload, 1) := by decide +kernel
theorem dX8_stepsToFail_62 : decode cX8_stepsToFail 62 = .ok (.istore 5, 2) := by decide +kernel
theorem dX8_stepsToFail_64 : decode cX8_stepsToFail 64 = .ok (.iconst 0, 1) := by decide +kernel
theorem dX8_stepsToFail_65 : decode cX8_stepsToFail 65 = .ok (.istore 6, 2) := by decide +kernel
theorem dX8_stepsToFail_67 : decode cX8_stepsToFail 67 = .ok (.iload 6, 2) := by decide +kernel
theorem dX8_stepsToFail_69 : decode cX8_stepsToFail 69 = .ok (.bipush 8, 2) := by decide +kernel
theorem dX8_stepsToFail_71 : decode cX8_stepsToFail 71 = .ok (.if_icmp .ge 41, 3) := by decide +kernel
theorem dX8_stepsToFail_74 : decode cX8_stepsToFail 74 = .ok (.iload 5, 2) := by decide +kernel
theorem dX8_stepsToFail_76 : decode cX8_stepsToFail 76 = .ok (.aload_n 0, 1) := by decide +kernel
theorem dX8_stepsToFail_77 : decode cX8_stepsToFail 77 = .ok (.getfield 39, 3) := by decide +kernel
theorem dX8_stepsToFail_80 : decode cX8_stepsToFail 80 = .ok (.getfield 98, 3) := by decide +kernel
theorem dX8_stepsToFail_83 : decode cX8_stepsToFail 83 = .ok (.iload 4, 2) := by decide +kernel
theorem dX8_stepsToFail_85 : decode cX8_stepsToFail 85 = .ok (.iload 6, 2) := by decide +kernel
theorem dX8_stepsToFail_87 : decode cX8_stepsToFail 87 = .ok (.iadd, 1) := by decide +kernel
theorem dX8_stepsToFail_88 : decode cX8_stepsToFail 88 = .ok (.iaload, 1) := by decide +kernel
theorem dX8_stepsToFail_89 : decode cX8_stepsToFail 89 = .ok (.aload_n 0, 1) := by decide +kernel
theorem dX8_stepsToFail_90 : decode cX8_stepsToFail 90 = .ok (.getfield 32, 3) := by decide +kernel
theorem dX8_stepsToFail_93 : decode cX8_stepsToFail 93 = .ok (.iload_n 3, 1) := by decide +kernel
theorem dX8_stepsToFail_94 : decode cX8_stepsToFail 94 = .ok (.iload 6, 2) := by decide +kernel
theorem dX8_stepsToFail_96 : decode cX8_stepsToFail 96 = .ok (.iadd, 1) := by decide +kernel
theorem dX8_stepsToFail_97 : decode cX8_stepsToFail 97 = .ok (.iaload, 1) := by decide +kernel
theorem dX8_stepsToFail_98 : decode cX8_stepsToFail 98 = .ok (.invokestatic 101, 3) := by decide +kernel
theorem dX8_stepsToFail_101 : decode cX8_stepsToFail 101 = .ok (.invokestatic 104, 3) := by decide +kernel
theorem dX8_stepsToFail_104 : decode cX8_stepsToFail 104 = .ok (.istore 5, 2) := by decide +kernel
theorem dX8_stepsToFail_106 : decode cX8_stepsToFail 106 = .ok (.iinc 6 1, 3) := by decide +kernel
theorem dX8_stepsToFail_109 : decode cX8_stepsToFail 109 = .ok (.goto (-42), 3) := by decide +kernel
theorem dX8_stepsToFail_112 : decode cX8_stepsToFail 112 = .ok (.iload 5, 2) := by decide +kernel
theorem dX8_stepsToFail_114 : decode cX8_stepsToFail 114 = .ok (.ireturn, 1) := by decide +kernel
theorem dX8_openCall_0 : decode cX8_openCall 0 = .ok (.aload_n 0, 1) := by decide +kernel
theorem dX8_openCall_1 : decode cX8_openCall 1 = .ok (.getfield 35, 3) := by decide +kernel
theorem dX8_openCall_4 : decode cX8_openCall 4 = .ok (.iload_n 1, 1) := by decide +kernel
theorem dX8_openCall_5 : decode cX8_openCall 5 = .ok (.iconst 1, 1) := by decide +kernel
theorem dX8_openCall_6 : decode cX8_openCall 6 = .ok (.invokevirtual 83, 3) := by decide +kernel
theorem dX8_openCall_9 : decode cX8_openCall 9 = .ok (.istore_n 2, 1) := by decide +kernel
theorem dX8_openCall_10 : decode cX8_openCall 10 = .ok (.aload_n 0, 1) := by decide +kernel
theorem dX8_openCall_11 : decode cX8_openCall 11 = .ok (.getfield 57, 3) := by decide +kernel
theorem dX8_openCall_14 : decode cX8_openCall 14 = .ok (.bipush 24, 2) := by decide +kernel
theorem dX8_openCall_16 : decode cX8_openCall 16 = .ok (.iand, 1) := by decide +kernel
theorem dX8_openCall_17 : decode cX8_openCall 17 = .ok (.istore_n 3, 1) := by decide +kernel
theorem dX8_openCall_18 : decode cX8_openCall 18 = .ok (.aload_n 0, 1) := by decide +kernel
theorem dX8_openCall_19 : decode cX8_openCall 19 = .ok (.getfield 47, 3) := by decide +kernel
theorem dX8_openCall_22 : decode cX8_openCall 22 = .ok (.iconst 1, 1) := by decide +kernel
theorem dX8_openCall_23 : decode cX8_openCall 23 = .ok (.iadd, 1) := by decide +kernel
theorem dX8_openCall_24 : decode cX8_openCall 24 = .ok (.bipush 8, 2) := by decide +kernel
theorem dX8_openCall_26 : decode cX8_openCall 26 = .ok (.imul, 1) := by decide +kernel
theorem dX8_openCall_27 : decode cX8_openCall 27 = .ok (.istore 4, 2) := by decide +kernel
theorem dX8_openCall_29 : decode cX8_openCall 29 = .ok (.aload_n 0, 1) := by decide +kernel
theorem dX8_openCall_30 : decode cX8_openCall 30 = .ok (.getfield 47, 3) := by decide +kernel
theorem dX8_openCall_33 : decode cX8_openCall 33 = .ok (.sipush 2000, 3) := by decide +kernel
theorem dX8_openCall_36 : decode cX8_openCall 36 = .ok (.if_icmp .lt 4, 3) := by decide +kernel
theorem dX8_openCall_39 : decode cX8_openCall 39 = .ok (.return_, 1) := by decide +kernel
theorem dX8_openCall_40 : decode cX8_openCall 40 = .ok (.iconst 0, 1) := by decide +kernel
theorem dX8_openCall_41 : decode cX8_openCall 41 = .ok (.istore 5, 2) := by decide +kernel
theorem dX8_openCall_43 : decode cX8_openCall 43 = .ok (.iload 5, 2) := by decide +kernel
theorem dX8_openCall_45 : decode cX8_openCall 45 = .ok (.bipush 8, 2) := by decide +kernel
theorem dX8_openCall_47 : decode cX8_openCall 47 = .ok (.if_icmp .ge 28, 3) := by decide +kernel
theorem dX8_openCall_50 : decode cX8_openCall 50 = .ok (.aload_n 0, 1) := by decide +kernel
theorem dX8_openCall_51 : decode cX8_openCall 51 = .ok (.getfield 32, 3) := by decide +kernel
theorem dX8_openCall_54 : decode cX8_openCall 54 = .ok (.iload 4, 2) := by decide +kernel
theorem dX8_openCall_56 : decode cX8_openCall 56 = .ok (.iload 5, 2) := by decide +kernel
theorem dX8_openCall_58 : decode cX8_openCall 58 = .ok (.iadd, 1) := by decide +kernel
theorem dX8_openCall_59 : decode cX8_openCall 59 = .ok (.aload_n 0, 1) := by decide +kernel
theorem dX8_openCall_60 : decode cX8_openCall 60 = .ok (.iload_n 2, 1) := by decide +kernel
theorem dX8_openCall_61 : decode cX8_openCall 61 = .ok (.iload_n 3, 1) := by decide +kernel
theorem dX8_openCall_62 : decode cX8_openCall 62 = .ok (.iload 5, 2) := by decide +kernel
theorem dX8_openCall_64 : decode cX8_openCall 64 = .ok (.ior, 1) := by decide +kernel
theorem dX8_openCall_65 : decode cX8_openCall 65 = .ok (.invokevirtual 86, 3) := by decide +kernel
theorem dX8_openCall_68 : decode cX8_openCall 68 = .ok (.iastore, 1) := by decide +kernel
theorem dX8_openCall_69 : decode cX8_openCall 69 = .ok (.iinc 5 1, 3) := by decide +kernel
theorem dX8_openCall_72 : decode cX8_openCall 72 = .ok (.goto (-29), 3) := by decide +kernel
theorem dX8_openCall_75 : decode cX8_openCall 75 = .ok (.aload_n 0, 1) := by decide +kernel
theorem dX8_openCall_76 : decode cX8_openCall 76 = .ok (.dup, 1) := by decide +kernel
theorem dX8_openCall_77 : decode cX8_openCall 77 = .ok (.getfield 47, 3) := by decide +kernel
theorem dX8_openCall_80 : decode cX8_openCall 80 = .ok (.iconst 1, 1) := by decide +kernel
theorem dX8_openCall_81 : decode cX8_openCall 81 = .ok (.iadd, 1) := by decide +kernel
theorem dX8_openCall_82 : decode cX8_openCall 82 = .ok (.putfield 47, 3) := by decide +kernel
theorem dX8_openCall_85 : decode cX8_openCall 85 = .ok (.aload_n 0, 1) := by decide +kernel
theorem dX8_openCall_86 : decode cX8_openCall 86 = .ok (.getfield 24, 3) := by decide +kernel
theorem dX8_openCall_89 : decode cX8_openCall 89 = .ok (.aload_n 0, 1) := by decide +kernel
theorem dX8_openCall_90 : decode cX8_openCall 90 = .ok (.getfield 47, 3) := by decide +kernel
theorem dX8_openCall_93 : decode cX8_openCall 93 = .ok (.iload_n 2, 1) := by decide +kernel
theorem dX8_openCall_94 : decode cX8_openCall 94 = .ok (.iastore, 1) := by decide +kernel
theorem dX8_openCall_95 : decode cX8_openCall 95 = .ok (.aload_n 0, 1) := by decide +kernel
theorem dX8_openCall_96 : decode cX8_openCall 96 = .ok (.getfield 27, 3) := by decide +kernel
theorem dX8_openCall_99 : decode cX8_openCall 99 = .ok (.aload_n 0, 1) := by decide +kernel
theorem dX8_openCall_100 : decode cX8_openCall 100 = .ok (.getfield 47, 3) := by decide +kernel
theorem dX8_openCall_103 : decode cX8_openCall 103 = .ok (.iload_n 3, 1) := by decide +kernel
theorem dX8_openCall_104 : decode cX8_openCall 104 = .ok (.iastore, 1) := by decide +kernel
theorem dX8_openCall_105 : decode cX8_openCall 105 = .ok (.aload_n 0, 1) := by decide +kernel
theorem dX8_openCall_106 : decode cX8_openCall 106 = .ok (.dup, 1) := by decide +kernel
theorem dX8_openCall_107 : decode cX8_openCall 107 = .ok (.getfield 57, 3) := by decide +kernel
theorem dX8_openCall_110 : decode cX8_openCall 110 = .ok (.bipush 7, 2) := by decide +kernel
theorem dX8_openCall_112 : decode cX8_openCall 112 = .ok (.iand, 1) := by decide +kernel
theorem dX8_openCall_113 : decode cX8_openCall 113 = .ok (.putfield 57, 3) := by decide +kernel
theorem dX8_openCall_116 : decode cX8_openCall 116 = .ok (.aload_n 0, 1) := by decide +kernel
theorem dX8_openCall_117 : decode cX8_openCall 117 = .ok (.aload_n 0, 1) := by decide +kernel
theorem dX8_openCall_118 : decode cX8_openCall 118 = .ok (.getfield 35, 3) := by decide +kernel
theorem dX8_openCall_121 : decode cX8_openCall 121 = .ok (.getfield 109, 3) := by decide +kernel
theorem dX8_openCall_124 : decode cX8_openCall 124 = .ok (.aload_n 0, 1) := by decide +kernel
theorem dX8_openCall_125 : decode cX8_openCall 125 = .ok (.getfield 35, 3) := by decide +kernel
theorem dX8_openCall_128 : decode cX8_openCall 128 = .ok (.getfield 112, 3) := by decide +kernel
theorem dX8_openCall_131 : decode cX8_openCall 131 = .ok (.iload_n 1, 1) := by decide +kernel
theorem dX8_openCall_132 : decode cX8_openCall 132 = .ok (.iaload, 1) := by decide +kernel
theorem dX8_openCall_133 : decode cX8_openCall 133 = .ok (.iaload, 1) := by decide +kernel
theorem dX8_openCall_134 : decode cX8_openCall 134 = .ok (.putfield 54, 3) := by decide +kernel
theorem dX8_openCall_137 : decode cX8_openCall 137 = .ok (.return_, 1) := by decide +kernel
theorem dX8_leaveEndedCalls_0 : decode cX8_leaveEndedCalls 0 = .ok (.aload_n 0, 1) := by decide +kernel
theorem dX8_leaveEndedCalls_1 : decode cX8_leaveEndedCalls 1 = .ok (.getfield 54, 3) := by decide +kernel
theorem dX8_leaveEndedCalls_4 : decode cX8_leaveEndedCalls 4 = .ok (.iconst (-1), 1) := by decide +kernel
theorem dX8_leaveEndedCalls_5 : decode cX8_leaveEndedCalls 5 = .ok (.if_icmp .ne 57, 3) := by decide +kernel
theorem dX8_leaveEndedCalls_8 : decode cX8_leaveEndedCalls 8 = .ok (.aload_n 0, 1) := by decide +kernel
theorem dX8_leaveEndedCalls_9 : decode cX8_leaveEndedCalls 9 = .ok (.getfield 47, 3) := by decide +kernel
theorem dX8_leaveEndedCalls_12 : decode cX8_leaveEndedCalls 12 = .ok (.ifCond .le 50, 3) := by decide +kernel
theorem dX8_leaveEndedCalls_15 : decode cX8_leaveEndedCalls 15 = .ok (.aload_n 0, 1) := by decide +kernel
theorem dX8_leaveEndedCalls_16 : decode cX8_leaveEndedCalls 16 = .ok (.aload_n 0, 1) := by decide +kernel
theorem dX8_leaveEndedCalls_17 : decode cX8_leaveEndedCalls 17 = .ok (.getfield 24, 3) := by decide +kernel
theorem dX8_leaveEndedCalls_20 : decode cX8_leaveEndedCalls 20 = .ok (.aload_n 0, 1) := by decide +kernel
theorem dX8_leaveEndedCalls_21 : decode cX8_leaveEndedCalls 21 = .ok (.getfield 47, 3) := by decide +kernel
theorem dX8_leaveEndedCalls_24 : decode cX8_leaveEndedCalls 24 = .ok (.iaload, 1) := by decide +kernel
theorem dX8_leaveEndedCalls_25 : decode cX8_leaveEndedCalls 25 = .ok (.putfield 54, 3) := by decide +kernel
theorem dX8_leaveEndedCalls_28 : decode cX8_leaveEndedCalls 28 = .ok (.aload_n 0, 1) := by decide +kernel
theorem dX8_leaveEndedCalls_29 : decode cX8_leaveEndedCalls 29 = .ok (.aload_n 0, 1) := by decide +kernel
theorem dX8_leaveEndedCalls_30 : decode cX8_leaveEndedCalls 30 = .ok (.getfield 57, 3) := by decide +kernel
theorem dX8_leaveEndedCalls_33 : decode cX8_leaveEndedCalls 33 = .ok (.bipush 7, 2) := by decide +kernel
theorem dX8_leaveEndedCalls_35 : decode cX8_leaveEndedCalls 35 = .ok (.iand, 1) := by decide +kernel
theorem dX8_leaveEndedCalls_36 : decode cX8_leaveEndedCalls 36 = .ok (.aload_n 0, 1) := by decide +kernel
theorem dX8_leaveEndedCalls_37 : decode cX8_leaveEndedCalls 37 = .ok (.getfield 27, 3) := by decide +kernel
theorem dX8_leaveEndedCalls_40 : decode cX8_leaveEndedCalls 40 = .ok (.aload_n 0, 1) := by decide +kernel
theorem dX8_leaveEndedCalls_41 : decode cX8_leaveEndedCalls 41 = .ok (.getfield 47, 3) := by decide +kernel
theorem dX8_leaveEndedCalls_44 : decode cX8_leaveEndedCalls 44 = .ok (.iaload, 1) := by decide +kernel
theorem dX8_leaveEndedCalls_45 : decode cX8_leaveEndedCalls 45 = .ok (.ior, 1) := by decide +kernel
theorem dX8_leaveEndedCalls_46 : decode cX8_leaveEndedCalls 46 = .ok (.putfield 57, 3) := by decide +kernel
theorem dX8_leaveEndedCalls_49 : decode cX8_leaveEndedCalls 49 = .ok (.aload_n 0, 1) := by decide +kernel
theorem dX8_leaveEndedCalls_50 : decode cX8_leaveEndedCalls 50 = .ok (.dup, 1) := by decide +kernel
theorem dX8_leaveEndedCalls_51 : decode cX8_leaveEndedCalls 51 = .ok (.getfield 47, 3) := by decide +kernel
theorem dX8_leaveEndedCalls_54 : decode cX8_leaveEndedCalls 54 = .ok (.iconst 1, 1) := by decide +kernel
theorem dX8_leaveEndedCalls_55 : decode cX8_leaveEndedCalls 55 = .ok (.isub, 1) := by decide +kernel
theorem dX8_leaveEndedCalls_56 : decode cX8_leaveEndedCalls 56 = .ok (.putfield 47, 3) := by decide +kernel
theorem dX8_leaveEndedCalls_59 : decode cX8_leaveEndedCalls 59 = .ok (.goto (-59), 3) := by decide +kernel
theorem dX8_leaveEndedCalls_62 : decode cX8_leaveEndedCalls 62 = .ok (.return_, 1) := by decide +kernel
theorem dX9_init_0 : decode cX9_init 0 = .ok (.aload_n 0, 1) := by decide +kernel
theorem dX9_init_1 : decode cX9_init 1 = .ok (.invokespecial 3, 3) := by decide +kernel
theorem dX9_init_4 : decode cX9_init 4 = .ok (.aload_n 0, 1) := by decide +kernel
theorem dX9_init_5 : decode cX9_init 5 = .ok (.sipush 2000, 3) := by decide +kernel
theorem dX9_init_8 : decode cX9_init 8 = .ok (.newarray .int, 2) := by decide +kernel
theorem dX9_init_10 : decode cX9_init 10 = .ok (.putfield 9, 3) := by decide +kernel
theorem dX9_init_13 : decode cX9_init 13 = .ok (.aload_n 0, 1) := by decide +kernel
theorem dX9_init_14 : decode cX9_init 14 = .ok (.iconst (-1), 1) := by decide +kernel
theorem dX9_init_15 : decode cX9_init 15 = .ok (.putfield 15, 3) := by decide +kernel
theorem dX9_init_18 : decode cX9_init 18 = .ok (.aload_n 0, 1) := by decide +kernel
theorem dX9_init_19 : decode cX9_init 19 = .ok (.iconst (-1), 1) := by decide +kernel
theorem dX9_init_20 : decode cX9_init 20 = .ok (.putfield 19, 3) := by decide +kernel
theorem dX9_init_23 : decode cX9_init 23 = .ok (.aload_n 0, 1) := by decide +kernel
theorem dX9_init_24 : decode cX9_init 24 = .ok (.iconst (-1), 1) := by decide +kernel
theorem dX9_init_25 : decode cX9_init 25 = .ok (.putfield 22, 3) := by decide +kernel
theorem dX9_init_28 : decode cX9_init 28 = .ok (.aload_n 0, 1) := by decide +kernel
theorem dX9_init_29 : decode cX9_init 29 = .ok (.aload_n 1, 1) := by decide +kernel
theorem dX9_init_30 : decode cX9_init 30 = .ok (.putfield 25, 3) := by decide +kernel
theorem dX9_init_33 : decode cX9_init 33 = .ok (.aload_n 0, 1) := by decide +kernel
theorem dX9_init_34 : decode cX9_init 34 = .ok (.new 29, 3) := by decide +kernel
theorem dX9_init_37 : decode cX9_init 37 = .ok (.dup, 1) := by decide +kernel
theorem dX9_init_38 : decode cX9_init 38 = .ok (.aload_n 2, 1) := by decide +kernel
theorem dX9_init_39 : decode cX9_init 39 = .ok (.sipush 2030, 3) := by decide +kernel
theorem dX9_init_42 : decode cX9_init 42 = .ok (.invokespecial 31, 3) := by decide +kernel
theorem dX9_init_45 : decode cX9_init 45 = .ok (.putfield 34, 3) := by decide +kernel
theorem dX9_init_48 : decode cX9_init 48 = .ok (.return_, 1) := by decide +kernel
theorem dX9_isOf_0 : decode cX9_isOf 0 = .ok (.aload_n 0, 1) := by decide +kernel
theorem dX9_isOf_1 : decode cX9_isOf 1 = .ok (.getfield 15, 3) := by decide +kernel
theorem dX9_isOf_4 : decode cX9_isOf 4 = .ok (.iload_n 1, 1) := by decide +kernel
theorem dX9_isOf_5 : decode cX9_isOf 5 = .ok (.if_icmp .ne 35, 3) := by decide +kernel
theorem dX9_isOf_8 : decode cX9_isOf 8 = .ok (.aload_n 0, 1) := by decide +kernel
theorem dX9_isOf_9 : decode cX9_isOf 9 = .ok (.getfield 19, 3) := by decide +kernel
theorem dX9_isOf_12 : decode cX9_isOf 12 = .ok (.aload_n 0, 1) := by decide +kernel
theorem dX9_isOf_13 : decode cX9_isOf 13 = .ok (.getfield 25, 3) := by decide +kernel
theorem dX9_isOf_16 : decode cX9_isOf 16 = .ok (.getfield 38, 3) := by decide +kernel
theorem dX9_isOf_19 : decode cX9_isOf 19 = .ok (.if_icmp .ne 21, 3) := by decide +kernel
theorem dX9_isOf_22 : decode cX9_isOf 22 = .ok (.aload_n 0, 1) := by decide +kernel
theorem dX9_isOf_23 : decode cX9_isOf 23 = .ok (.getfield 22, 3) := by decide +kernel
theorem dX9_isOf_26 : decode cX9_isOf 26 = .ok (.aload_n 0, 1) := by decide +kernel
theorem dX9_isOf_27 : decode cX9_isOf 27 = .ok (.getfield 25, 3) := by decide +kernel
theorem dX9_isOf_30 : decode cX9_isOf 30 = .ok (.getfield 43, 3) := by decide +kernel
theorem dX9_isOf_33 : decode cX9_isOf 33 = .ok (.if_icmp .ne 7, 3) := by decide +kernel
theorem dX9_isOf_36 : decode cX9_isOf 36 = .ok (.iconst 1, 1) := by decide +kernel
theorem dX9_isOf_37 : decode cX9_isOf 37 = .ok (.goto 4, 3) := by decide +kernel
theorem dX9_isOf_40 : decode cX9_isOf 40 = .ok (.iconst 0, 1) := by decide +kernel
theorem dX9_isOf_41 : decode cX9_isOf 41 = .ok (.ireturn, 1) := by decide +kernel
theorem dX9_ruleAt_0 : decode cX9_ruleAt 0 = .ok (.iload_n 1, 1) := by decide +kernel
theorem dX9_ruleAt_1 : decode cX9_ruleAt 1 = .ok (.ifCond .lt 20, 3) := by decide +kernel
theorem dX9_ruleAt_4 : decode cX9_ruleAt 4 = .ok (.iload_n 1, 1) := by decide +kernel
theorem dX9_ruleAt_5 : decode cX9_ruleAt 5 = .ok (.aload_n 0, 1) := by decide +kernel
theorem dX9_ruleAt_6 : decode cX9_ruleAt 6 = .ok (.getfield 46, 3) := by decide +kernel
theorem dX9_ruleAt_9 : decode cX9_ruleAt 9 = .ok (.if_icmp .ge 12, 3) := by decide +kernel
theorem dX9_ruleAt_12 : decode cX9_ruleAt 12 = .ok (.aload_n 0, 1) := by decide +kernel
theorem dX9_ruleAt_13 : decode cX9_ruleAt 13 = .ok (.getfield 9, 3) := by decide +kernel
theorem dX9_ruleAt_16 : decode cX9_ruleAt 16 = .ok (.iload_n 1, 1) := by decide +kernel
theorem dX9_ruleAt_17 : decode cX9_ruleAt 17 = .ok (.iaload, 1) := by decide +kernel
theorem dX9_ruleAt_18 : decode cX9_ruleAt 18 = .ok (.goto 4, 3) := by decide +kernel
theorem dX9_ruleAt_21 : decode cX9_ruleAt 21 = .ok (.iconst (-1), 1) := by decide +kernel
theorem dX9_ruleAt_22 : decode cX9_ruleAt 22 = .ok (.ireturn, 1) := by decide +kernel
theorem dX9_find_0 : decode cX9_find 0 = .ok (.aload_n 0, 1) := by decide +kernel
theorem dX9_find_1 : decode cX9_find 1 = .ok (.iload_n 1, 1) := by decide +kernel
theorem dX9_find_2 : decode cX9_find 2 = .ok (.putfield 15, 3) := by decide +kernel
theorem dX9_find_5 : decode cX9_find 5 = .ok (.aload_n 0, 1) := by decide +kernel
theorem dX9_find_6 : decode cX9_find 6 = .ok (.aload_n 0, 1) := by decide +kernel
theorem dX9_find_7 : decode cX9_find 7 = .ok (.getfield 25, 3) := by decide +kernel
theorem dX9_find_10 : decode cX9_find 10 = .ok (.getfield 38, 3) := by decide +kernel
theorem dX9_find_13 : decode cX9_find 13 = .ok (.putfield 19, 3) := by decide +kernel
theorem dX9_find_16 : decode cX9_find 16 = .ok (.aload_n 0, 1) := by decide +kernel
theorem dX9_find_17 : decode cX9_find 17 = .ok (.aload_n 0, 1) := by decide +kernel
theorem dX9_find_18 : decode cX9_find 18 = .ok (.getfield 25, 3) := by decide +kernel
theorem dX9_find_21 : decode cX9_find 21 = .ok (.getfield 43, 3) := by decide +kernel
theorem dX9_find_24 : decode cX9_find 24 = .ok (.putfield 22, 3) := by decide +kernel
theorem dX9_find_27 : decode cX9_find 27 = .ok (.aload_n 0, 1) := by decide +kernel
theorem dX9_find_28 : decode cX9_find 28 = .ok (.iconst 0, 1) := by decide +kernel
theorem dX9_find_29 : decode cX9_find 29 = .ok (.putfield 46, 3) := by decide +kernel
theorem dX9_find_32 : decode cX9_find 32 = .ok (.iload_n 2, 1) := by decide +kernel
theorem dX9_find_33 : decode cX9_find 33 = .ok (.sipush 2000, 3) := by decide +kernel
theorem dX9_find_36 : decode cX9_find 36 = .ok (.if_icmp .le 4, 3) := by decide +kernel
theorem dX9_find_39 : decode cX9_find 39 = .ok (.return_, 1) := by decide +kernel
theorem dX9_find_40 : decode cX9_find 40 = .ok (.aload_n 0, 1) := by decide +kernel
theorem dX9_find_41 : decode cX9_find 41 = .ok (.getfield 34, 3) := by decide +kernel
theorem dX9_find_44 : decode cX9_find 44 = .ok (.aload_n 0, 1) := by decide +kernel
theorem dX9_find_45 : decode cX9_find 45 = .ok (.getfield 25, 3) := by decide +kernel
theorem dX9_find_48 : decode cX9_find 48 = .ok (.invokevirtual 49, 3) := by decide +kernel
theorem dX9_find_51 : decode cX9_find 51 = .ok (.iload_n 1, 1) := by decide +kernel
theorem dX9_find_52 : decode cX9_find 52 = .ok (.istore_n 3, 1) := by decide +kernel
theorem dX9_find_53 : decode cX9_find 53 = .ok (.iconst 0, 1) := by decide +kernel
theorem dX9_find_54 : decode cX9_find 54 = .ok (.istore 4, 2) := by decide +kernel
theorem dX9_find_56 : decode cX9_find 56 = .ok (.iload 4, 2) := by decide +kernel
theorem dX9_find_58 : decode cX9_find 58 = .ok (.iload_n 2, 1) := by decide +kernel
theorem dX9_find_59 : decode cX9_find 59 = .ok (.if_icmp .ge 72, 3) := by decide +kernel
theorem dX9_find_62 : decode cX9_find 62 = .ok (.aload_n 0, 1) := by decide +kernel
theorem dX9_find_63 : decode cX9_find 63 = .ok (.iload_n 3, 1) := by decide +kernel
theorem dX9_find_64 : decode cX9_find 64 = .ok (.aload_n 0, 1) := by decide +kernel
theorem dX9_find_65 : decode cX9_find 65 = .ok (.getfield 34, 3) := by decide +kernel
theorem dX9_find_68 : decode cX9_find 68 = .ok (.invokevirtual 53, 3) := by decide +kernel
theorem dX9_find_71 : decode cX9_find 71 = .ok (.iload_n 2, 1) := by decide +kernel
theorem dX9_find_72 : decode cX9_find 72 = .ok (.iload 4, 2) := by decide +kernel
theorem dX9_find_74 : decode cX9_find 74 = .ok (.isub, 1) := by decide +kernel
theorem dX9_find_75 : decode cX9_find 75 = .ok (.iconst 1, 1) := by decide +kernel
theorem dX9_find_76 : decode cX9_find 76 = .ok (.isub, 1) := by decide +kernel
theorem dX9_find_77 : decode cX9_find 77 = .ok (.invokevirtual 57, 3) := by decide +kernel
theorem dX9_find_80 : decode cX9_find 80 = .ok (.istore 5, 2) := by decide +kernel
theorem dX9_find_82 : decode cX9_find 82 = .ok (.iload 5, 2) := by decide +kernel
theorem dX9_find_84 : decode cX9_find 84 = .ok (.iconst (-1), 1) := by decide +kernel
theorem dX9_find_85 : decode cX9_find 85 = .ok (.if_icmp .ne 4, 3) := by decide +kernel
theorem dX9_find_88 : decode cX9_find 88 = .ok (.return_, 1) := by decide +kernel
theorem dX9_find_89 : decode cX9_find 89 = .ok (.aload_n 0, 1) := by decide +kernel
theorem dX9_find_90 : decode cX9_find 90 = .ok (.getfield 9, 3) := by decide +kernel
theorem dX9_find_93 : decode cX9_find 93 = .ok (.iload 4, 2) := by decide +kernel
theorem dX9_find_95 : decode cX9_find 95 = .ok (.iload 5, 2) := by decide +kernel
theorem dX9_find_97 : decode cX9_find 97 = .ok (.iastore, 1) := by decide +kernel
theorem dX9_find_98 : decode cX9_find 98 = .ok (.aload_n 0, 1) := by decide +kernel
theorem dX9_find_99 : decode cX9_find 99 = .ok (.dup, 1) := by decide +kernel
theorem dX9_find_100 : decode cX9_find 100 = .ok (.getfield 46, 3) := by decide +kernel
theorem dX9_find_103 : decode cX9_find 103 = .ok (.iconst 1, 1) := by decide +kernel
theorem dX9_find_104 : decode cX9_find 104 = .ok (.iadd, 1) := by decide +kernel
theorem dX9_find_105 : decode cX9_find 105 = .ok (.putfield 46, 3) := by decide +kernel
theorem dX9_find_108 : decode cX9_find 108 = .ok (.aload_n 0, 1) := by decide +kernel
theorem dX9_find_109 : decode cX9_find 109 = .ok (.getfield 25, 3) := by decide +kernel
theorem dX9_find_112 : decode cX9_find 112 = .ok (.getfield 61, 3) := by decide +kernel
theorem dX9_find_115 : decode cX9_find 115 = .ok (.iload 5, 2) := by decide +kernel
theorem dX9_find_117 : decode cX9_find 117 = .ok (.iaload, 1) := by decide +kernel
theorem dX9_find_118 : decode cX9_find 118 = .ok (.istore_n 3, 1) := by decide +kernel
theorem dX9_find_119 : decode cX9_find 119 = .ok (.aload_n 0, 1) := by decide +kernel
theorem dX9_find_120 : decode cX9_find 120 = .ok (.iload 5, 2) := by decide +kernel
theorem dX9_find_122 : decode cX9_find 122 = .ok (.invokevirtual 64, 3) := by decide +kernel
theorem dX9_find_125 : decode cX9_find 125 = .ok (.iinc 4 1, 3) := by decide +kernel
theorem dX9_find_128 : decode cX9_find 128 = .ok (.goto (-72), 3) := by decide +kernel
theorem dX9_find_131 : decode cX9_find 131 = .ok (.return_, 1) := by decide +kernel
theorem dX9_leastRule_0 : decode cX9_leastRule 0 = .ok (.iconst 0, 1) := by decide +kernel
theorem dX9_leastRule_1 : decode cX9_leastRule 1 = .ok (.istore 4, 2) := by decide +kernel
theorem dX9_leastRule_3 : decode cX9_leastRule 3 = .ok (.iload 4, 2) := by decide +kernel
theorem dX9_leastRule_5 : decode cX9_leastRule 5 = .ok (.aload_n 0, 1) := by decide +kernel
theorem dX9_leastRule_6 : decode cX9_leastRule 6 = .ok (.getfield 25, 3) := by decide +kernel
theorem dX9_leastRule_9 : decode cX9_leastRule 9 = .ok (.getfield 68, 3) := by decide +kernel
theorem dX9_leastRule_12 : decode cX9_leastRule 12 = .ok (.if_icmp .ge 57, 3) := by decide +kernel
theorem dX9_leastRule_15 : decode cX9_leastRule 15 = .ok (.aload_n 0, 1) := by decide +kernel
theorem dX9_leastRule_16 : decode cX9_leastRule 16 = .ok (.getfield 25, 3) := by decide +kernel
theorem dX9_leastRule_19 : decode cX9_leastRule 19 = .ok (.getfield 70, 3) := by decide +kernel
theorem dX9_leastRule_22 : decode cX9_leastRule 22 = .ok (.iload 4, 2) := by decide +kernel
theorem dX9_leastRule_24 : decode cX9_leastRule 24 = .ok (.iaload, 1) := by decide +kernel
theorem dX9_leastRule_25 : decode cX9_leastRule 25 = .ok (.iload_n 1, 1) := by decide +kernel
theorem dX9_leastRule_26 : decode cX9_leastRule 26 = .ok (.if_icmp .ne 37, 3) := by decide +kernel
theorem dX9_leastRule_29 : decode cX9_leastRule 29 = .ok (.aload_n 0, 1) := by decide +kernel
theorem dX9_leastRule_30 : decode cX9_leastRule 30 = .ok (.getfield 25, 3) := by decide +kernel
theorem dX9_leastRule_33 : decode cX9_leastRule 33 = .ok (.getfield 72, 3) := by decide +kernel
theorem dX9_leastRule_36 : decode cX9_leastRule 36 = .ok (.iload 4, 2) := by decide +kernel
theorem dX9_leastRule_38 : decode cX9_leastRule 38 = .ok (.iaload, 1) := by decide +kernel
theorem dX9_leastRule_39 : decode cX9_leastRule 39 = .ok (.iload_n 2, 1) := by decide +kernel
theorem dX9_leastRule_40 : decode cX9_leastRule 40 = .ok (.if_icmp .ne 23, 3) := by decide +kernel
theorem dX9_leastRule_43 : decode cX9_leastRule 43 = .ok (.aload_n 0, 1) := by decide +kernel
theorem dX9_leastRule_44 : decode cX9_leastRule 44 = .ok (.getfield 34, 3) := by decide +kernel
theorem dX9_leastRule_47 : decode cX9_leastRule 47 = .ok (.aload_n 0, 1) := by decide +kernel
theorem dX9_leastRule_48 : decode cX9_leastRule 48 = .ok (.getfield 25, 3) := by decide +kernel
theorem dX9_leastRule_51 : decode cX9_leastRule 51 = .ok (.iload 4, 2) := by decide +kernel
theorem dX9_leastRule_53 : decode cX9_leastRule 53 = .ok (.invokevirtual 75, 3) := by decide +kernel
theorem dX9_leastRule_56 : decode cX9_leastRule 56 = .ok (.iload_n 3, 1) := by decide +kernel
theorem dX9_leastRule_57 : decode cX9_leastRule 57 = .ok (.if_icmp .ne 6, 3) := by decide +kernel
theorem dX9_leastRule_60 : decode cX9_leastRule 60 = .ok (.iload 4, 2) := by decide +kernel
theorem dX9_leastRule_62 : decode cX9_leastRule 62 = .ok (.ireturn, 1) := by decide +kernel
theorem dX9_leastRule_63 : decode cX9_leastRule 63 = .ok (.iinc 4 1, 3) := by decide +kernel
theorem dX9_leastRule_66 : decode cX9_leastRule 66 = .ok (.goto (-63), 3) := by decide +kernel
theorem dX9_leastRule_69 : decode cX9_leastRule 69 = .ok (.iconst (-1), 1) := by decide +kernel
theorem dX9_leastRule_70 : decode cX9_leastRule 70 = .ok (.ireturn, 1) := by decide +kernel
theorem dX9_pileSigns_0 : decode cX9_pileSigns 0 = .ok (.aload_n 0, 1) := by decide +kernel
theorem dX9_pileSigns_1 : decode cX9_pileSigns 1 = .ok (.getfield 25, 3) := by decide +kernel
theorem dX9_pileSigns_4 : decode cX9_pileSigns 4 = .ok (.getfield 79, 3) := by decide +kernel
theorem dX9_pileSigns_7 : decode cX9_pileSigns 7 = .ok (.iload_n 1, 1) := by decide +kernel
theorem dX9_pileSigns_8 : decode cX9_pileSigns 8 = .ok (.iaload, 1) := by decide +kernel
theorem dX9_pileSigns_9 : decode cX9_pileSigns 9 = .ok (.iconst 2, 1) := by decide +kernel
theorem dX9_pileSigns_10 : decode cX9_pileSigns 10 = .ok (.if_icmp .ne 19, 3) := by decide +kernel
theorem dX9_pileSigns_13 : decode cX9_pileSigns 13 = .ok (.aload_n 0, 1) := by decide +kernel
theorem dX9_pileSigns_14 : decode cX9_pileSigns 14 = .ok (.getfield 34, 3) := by decide +kernel
theorem dX9_pileSigns_17 : decode cX9_pileSigns 17 = .ok (.aload_n 0, 1) := by decide +kernel
theorem dX9_pileSigns_18 : decode cX9_pileSigns 18 = .ok (.getfield 25, 3) := by decide +kernel
theorem dX9_pileSigns_21 : decode cX9_pileSigns 21 = .ok (.getfield 82, 3) := by decide +kernel
theorem dX9_pileSigns_24 : decode cX9_pileSigns 24 = .ok (.iload_n 1, 1) := by decide +kernel
theorem dX9_pileSigns_25 : decode cX9_pileSigns 25 = .ok (.iaload, 1) := by decide +kernel
theorem dX9_pileSigns_26 : decode cX9_pileSigns 26 = .ok (.invokevirtual 85, 3) := by decide +kernel
theorem dX9_pileSigns_29 : decode cX9_pileSigns 29 = .ok (.aload_n 0, 1) := by decide +kernel
theorem dX9_pileSigns_30 : decode cX9_pileSigns 30 = .ok (.getfield 25, 3) := by decide +kernel
theorem dX9_pileSigns_33 : decode cX9_pileSigns 33 = .ok (.getfield 79, 3) := by decide +kernel
theorem dX9_pileSigns_36 : decode cX9_pileSigns 36 = .ok (.iload_n 1, 1) := by decide +kernel
theorem dX9_pileSigns_37 : decode cX9_pileSigns 37 = .ok (.iaload, 1) := by decide +kernel
theorem dX9_pileSigns_38 : decode cX9_pileSigns 38 = .ok (.iconst 1, 1) := by decide +kernel
theorem dX9_pileSigns_39 : decode cX9_pileSigns 39 = .ok (.if_icmp .lt 19, 3) := by decide +kernel
theorem dX9_pileSigns_42 : decode cX9_pileSigns 42 = .ok (.aload_n 0, 1) := by decide +kernel
theorem dX9_pileSigns_43 : decode cX9_pileSigns 43 = .ok (.getfield 34, 3) := by decide +kernel
theorem dX9_pileSigns_46 : decode cX9_pileSigns 46 = .ok (.aload_n 0, 1) := by decide +kernel
theorem dX9_pileSigns_47 : decode cX9_pileSigns 47 = .ok (.getfield 25, 3) := by decide +kernel
theorem dX9_pileSigns_50 : decode cX9_pileSigns 50 = .ok (.getfield 88, 3) := by decide +kernel
theorem dX9_pileSigns_53 : decode cX9_pileSigns 53 = .ok (.iload_n 1, 1) := by decide +kernel
theorem dX9_pileSigns_54 : decode cX9_pileSigns 54 = .ok (.iaload, 1) := by decide +kernel
theorem dX9_pileSigns_55 : decode cX9_pileSigns 55 = .ok (.invokevirtual 85, 3) := by decide +kernel
theorem dX9_pileSigns_58 : decode cX9_pileSigns 58 = .ok (.return_, 1) := by decide +kernel
theorem dX10_init_0 : decode cX10_init 0 = .ok (.aload_n 0, 1) := by decide +kernel
theorem dX10_init_1 : decode cX10_init 1 = .ok (.invokespecial 1, 3) := by decide +kernel
theorem dX10_init_4 : decode cX10_init 4 = .ok (.aload_n 0, 1) := by decide +kernel
theorem dX10_init_5 : decode cX10_init 5 = .ok (.new 7, 3) := by decide +kernel
theorem dX10_init_8 : decode cX10_init 8 = .ok (.dup, 1) := by decide +kernel
theorem dX10_init_9 : decode cX10_init 9 = .ok (.invokespecial 9, 3) := by decide +kernel
theorem dX10_init_12 : decode cX10_init 12 = .ok (.putfield 10, 3) := by decide +kernel
theorem dX10_init_15 : decode cX10_init 15 = .ok (.aload_n 0, 1) := by decide +kernel
theorem dX10_init_16 : decode cX10_init 16 = .ok (.new 16, 3) := by decide +kernel
theorem dX10_init_19 : decode cX10_init 19 = .ok (.dup, 1) := by decide +kernel
theorem dX10_init_20 : decode cX10_init 20 = .ok (.invokespecial 18, 3) := by decide +kernel
theorem dX10_init_23 : decode cX10_init 23 = .ok (.putfield 19, 3) := by decide +kernel
theorem dX10_init_26 : decode cX10_init 26 = .ok (.aload_n 0, 1) := by decide +kernel
theorem dX10_init_27 : decode cX10_init 27 = .ok (.new 23, 3) := by decide +kernel
theorem dX10_init_30 : decode cX10_init 30 = .ok (.dup, 1) := by decide +kernel
theorem dX10_init_31 : decode cX10_init 31 = .ok (.invokespecial 25, 3) := by decide +kernel
theorem dX10_init_34 : decode cX10_init 34 = .ok (.putfield 26, 3) := by decide +kernel
theorem dX10_init_37 : decode cX10_init 37 = .ok (.aload_n 0, 1) := by decide +kernel
theorem dX10_init_38 : decode cX10_init 38 = .ok (.new 30, 3) := by decide +kernel
theorem dX10_init_41 : decode cX10_init 41 = .ok (.dup, 1) := by decide +kernel
theorem dX10_init_42 : decode cX10_init 42 = .ok (.aload_n 0, 1) := by decide +kernel
theorem dX10_init_43 : decode cX10_init 43 = .ok (.getfield 19, 3) := by decide +kernel
theorem dX10_init_46 : decode cX10_init 46 = .ok (.aload_n 0, 1) := by decide +kernel
theorem dX10_init_47 : decode cX10_init 47 = .ok (.getfield 26, 3) := by decide +kernel
theorem dX10_init_50 : decode cX10_init 50 = .ok (.invokespecial 32, 3) := by decide +kernel
theorem dX10_init_53 : decode cX10_init 53 = .ok (.putfield 35, 3) := by decide +kernel
theorem dX10_init_56 : decode cX10_init 56 = .ok (.return_, 1) := by decide +kernel
theorem dX10_rule_0 : decode cX10_rule 0 = .ok (.iload_n 1, 1) := by decide +kernel
theorem dX10_rule_1 : decode cX10_rule 1 = .ok (.invokestatic 39, 3) := by decide +kernel
theorem dX10_rule_4 : decode cX10_rule 4 = .ok (.ifCond .eq 28, 3) := by decide +kernel
theorem dX10_rule_7 : decode cX10_rule 7 = .ok (.iload_n 2, 1) := by decide +kernel
theorem dX10_rule_8 : decode cX10_rule 8 = .ok (.invokestatic 43, 3) := by decide +kernel
theorem dX10_rule_11 : decode cX10_rule 11 = .ok (.ifCond .eq 21, 3) := by decide +kernel
theorem dX10_rule_14 : decode cX10_rule 14 = .ok (.iload_n 3, 1) := by decide +kernel
theorem dX10_rule_15 : decode cX10_rule 15 = .ok (.invokestatic 39, 3) := by decide +kernel
theorem dX10_rule_18 : decode cX10_rule 18 = .ok (.ifCond .eq 14, 3) := by decide +kernel
theorem dX10_rule_21 : decode cX10_rule 21 = .ok (.iload 4, 2) := by decide +kernel
theorem dX10_rule_23 : decode cX10_rule 23 = .ok (.ifCond .lt 9, 3) := by decide +kernel
theorem dX10_rule_26 : decode cX10_rule 26 = .ok (.iload 4, 2) := by decide +kernel
theorem dX10_rule_28 : decode cX10_rule 28 = .ok (.iconst 2, 1) := by decide +kernel
theorem dX10_rule_29 : decode cX10_rule 29 = .ok (.if_icmp .le 6, 3) := by decide +kernel
theorem dX10_rule_32 : decode cX10_rule 32 = .ok (.bipush (-2), 2) := by decide +kernel
theorem dX10_rule_34 : decode cX10_rule 34 = .ok (.ireturn, 1) := by decide +kernel
theorem dX10_rule_35 : decode cX10_rule 35 = .ok (.iload 4, 2) := by decide +kernel
theorem dX10_rule_37 : decode cX10_rule 37 = .ok (.iconst 1, 1) := by decide +kernel
theorem dX10_rule_38 : decode cX10_rule 38 = .ok (.if_icmp .lt 11, 3) := by decide +kernel
theorem dX10_rule_41 : decode cX10_rule 41 = .ok (.iload 5, 2) := by decide +kernel
theorem dX10_rule_43 : decode cX10_rule 43 = .ok (.invokestatic 43, 3) := by decide +kernel
theorem dX10_rule_46 : decode cX10_rule 46 = .ok (.ifCond .eq 17, 3) := by decide +kernel
theorem dX10_rule_49 : decode cX10_rule 49 = .ok (.iload 4, 2) := by decide +kernel
theorem dX10_rule_51 : decode cX10_rule 51 = .ok (.iconst 2, 1) := by decide +kernel
theorem dX10_rule_52 : decode cX10_rule 52 = .ok (.if_icmp .ne 14, 3) := by decide +kernel
theorem dX10_rule_55 : decode cX10_rule 55 = .ok (.iload 6, 2) := by decide +kernel
theorem dX10_rule_57 : decode cX10_rule 57 = .ok (.invokestatic 43, 3) := by decide +kernel
theorem dX10_rule_60 : decode cX10_rule 60 = .ok (.ifCond .ne 6, 3) := by decide +kernel
theorem dX10_rule_63 : decode cX10_rule 63 = .ok (.bipush (-2), 2) := by decide +kernel
theorem dX10_rule_65 : decode cX10_rule 65 = .ok (.ireturn, 1) := by decide +kernel
theorem dX10_rule_66 : decode cX10_rule 66 = .ok (.aload_n 0, 1) := by decide +kernel
theorem dX10_rule_67 : decode cX10_rule 67 = .ok (.getfield 10, 3) := by decide +kernel
theorem dX10_rule_70 : decode cX10_rule 70 = .ok (.iload_n 1, 1) := by decide +kernel
theorem dX10_rule_71 : decode cX10_rule 71 = .ok (.iload_n 2, 1) := by decide +kernel
theorem dX10_rule_72 : decode cX10_rule 72 = .ok (.iload_n 3, 1) := by decide +kernel
theorem dX10_rule_73 : decode cX10_rule 73 = .ok (.iload 4, 2) := by decide +kernel
theorem dX10_rule_75 : decode cX10_rule 75 = .ok (.iload 5, 2) := by decide +kernel
theorem dX10_rule_77 : decode cX10_rule 77 = .ok (.iload 6, 2) := by decide +kernel
theorem dX10_rule_79 : decode cX10_rule 79 = .ok (.invokevirtual 46, 3) := by decide +kernel
theorem dX10_rule_82 : decode cX10_rule 82 = .ok (.ireturn, 1) := by decide +kernel
theorem dX10_arc_0 : decode cX10_arc 0 = .ok (.iload_n 1, 1) := by decide +kernel
theorem dX10_arc_1 : decode cX10_arc 1 = .ok (.invokestatic 50, 3) := by decide +kernel
theorem dX10_arc_4 : decode cX10_arc 4 = .ok (.ifCond .eq 23, 3) := by decide +kernel
theorem dX10_arc_7 : decode cX10_arc 7 = .ok (.iload_n 2, 1) := by decide +kernel
theorem dX10_arc_8 : decode cX10_arc 8 = .ok (.invokestatic 43, 3) := by decide +kernel
theorem dX10_arc_11 : decode cX10_arc 11 = .ok (.ifCond .eq 16, 3) := by decide +kernel
theorem dX10_arc_14 : decode cX10_arc 14 = .ok (.iload_n 3, 1) := by decide +kernel
theorem dX10_arc_15 : decode cX10_arc 15 = .ok (.invokestatic 50, 3) := by decide +kernel
theorem dX10_arc_18 : decode cX10_arc 18 = .ok (.ifCond .eq 9, 3) := by decide +kernel
theorem dX10_arc_21 : decode cX10_arc 21 = .ok (.iload_n 3, 1) := by decide +kernel
theorem dX10_arc_22 : decode cX10_arc 22 = .ok (.bipush 8, 2) := by decide +kernel
theorem dX10_arc_24 : decode cX10_arc 24 = .ok (.if_icmp .ge 6, 3) := by decide +kernel
theorem dX10_arc_27 : decode cX10_arc 27 = .ok (.bipush (-2), 2) := by decide +kernel
theorem dX10_arc_29 : decode cX10_arc 29 = .ok (.ireturn, 1) := by decide +kernel
theorem dX10_arc_30 : decode cX10_arc 30 = .ok (.aload_n 0, 1) := by decide +kernel
theorem dX10_arc_31 : decode cX10_arc 31 = .ok (.getfield 10, 3) := by decide +kernel
theorem dX10_arc_34 : decode cX10_arc 34 = .ok (.iload_n 1, 1) := by decide +kernel
theorem dX10_arc_35 : decode cX10_arc 35 = .ok (.iload_n 2, 1) := by decide +kernel
theorem dX10_arc_36 : decode cX10_arc 36 = .ok (.iload_n 3, 1) := by decide +kernel
theorem dX10_arc_37 : decode cX10_arc 37 = .ok (.invokevirtual 53, 3) := by decide +kernel
theorem dX10_arc_40 : decode cX10_arc 40 = .ok (.ireturn, 1) := by decide +kernel
theorem dX10_end_0 : decode cX10_end 0 = .ok (.iload_n 1, 1) := by decide +kernel
theorem dX10_end_1 : decode cX10_end 1 = .ok (.invokestatic 50, 3) := by decide +kernel
theorem dX10_end_4 : decode cX10_end 4 = .ok (.ifCond .eq 12, 3) := by decide +kernel
theorem dX10_end_7 : decode cX10_end 7 = .ok (.iload_n 2, 1) := by decide +kernel
theorem dX10_end_8 : decode cX10_end 8 = .ok (.ifCond .lt 8, 3) := by decide +kernel
theorem dX10_end_11 : decode cX10_end 11 = .ok (.iload_n 2, 1) := by decide +kernel
theorem dX10_end_12 : decode cX10_end 12 = .ok (.iconst 1, 1) := by decide +kernel
theorem dX10_end_13 : decode cX10_end 13 = .ok (.if_icmp .le 6, 3) := by decide +kernel
theorem dX10_end_16 : decode cX10_end 16 = .ok (.bipush (-2), 2) := by decide +kernel
theorem dX10_end_18 : decode cX10_end 18 = .ok (.ireturn, 1) := by decide +kernel
theorem dX10_end_19 : decode cX10_end 19 = .ok (.aload_n 0, 1) := by decide +kernel
theorem dX10_end_20 : decode cX10_end 20 = .ok (.getfield 10, 3) := by decide +kernel
theorem dX10_end_23 : decode cX10_end 23 = .ok (.iload_n 1, 1) := by decide +kernel
theorem dX10_end_24 : decode cX10_end 24 = .ok (.iload_n 2, 1) := by decide +kernel
theorem dX10_end_25 : decode cX10_end 25 = .ok (.invokevirtual 57, 3) := by decide +kernel
theorem dX10_end_28 : decode cX10_end 28 = .ok (.ireturn, 1) := by decide +kernel
theorem dX10_clear_0 : decode cX10_clear 0 = .ok (.aload_n 0, 1) := by decide +kernel
theorem dX10_clear_1 : decode cX10_clear 1 = .ok (.getfield 10, 3) := by decide +kernel
theorem dX10_clear_4 : decode cX10_clear 4 = .ok (.invokevirtual 61, 3) := by decide +kernel
theorem dX10_clear_7 : decode cX10_clear 7 = .ok (.ireturn, 1) := by decide +kernel
theorem dX10_push_0 : decode cX10_push 0 = .ok (.iload_n 1, 1) := by decide +kernel
theorem dX10_push_1 : decode cX10_push 1 = .ok (.invokestatic 43, 3) := by decide +kernel
theorem dX10_push_4 : decode cX10_push 4 = .ok (.ifCond .eq 14, 3) := by decide +kernel
theorem dX10_push_7 : decode cX10_push 7 = .ok (.aload_n 0, 1) := by decide +kernel
theorem dX10_push_8 : decode cX10_push 8 = .ok (.getfield 10, 3) := by decide +kernel
theorem dX10_push_11 : decode cX10_push 11 = .ok (.iload_n 1, 1) := by decide +kernel
theorem dX10_push_12 : decode cX10_push 12 = .ok (.invokevirtual 65, 3) := by decide +kernel
theorem dX10_push_15 : decode cX10_push 15 = .ok (.goto 5, 3) := by decide +kernel
theorem dX10_push_18 : decode cX10_push 18 = .ok (.bipush (-2), 2) := by decide +kernel
theorem dX10_push_20 : decode cX10_push 20 = .ok (.ireturn, 1) := by decide +kernel
theorem dX10_drop_0 : decode cX10_drop 0 = .ok (.aload_n 0, 1) := by decide +kernel
theorem dX10_drop_1 : decode cX10_drop 1 = .ok (.getfield 10, 3) := by decide +kernel
theorem dX10_drop_4 : decode cX10_drop 4 = .ok (.invokevirtual 69, 3) := by decide +kernel
theorem dX10_drop_7 : decode cX10_drop 7 = .ok (.ireturn, 1) := by decide +kernel
theorem dX10_lies_0 : decode cX10_lies 0 = .ok (.iload_n 1, 1) := by decide +kernel
theorem dX10_lies_1 : decode cX10_lies 1 = .ok (.invokestatic 39, 3) := by decide +kernel
theorem dX10_lies_4 : decode cX10_lies 4 = .ok (.ifCond .ne 6, 3) := by decide +kernel
theorem dX10_lies_7 : decode cX10_lies 7 = .ok (.bipush (-2), 2) := by decide +kernel
theorem dX10_lies_9 : decode cX10_lies 9 = .ok (.ireturn, 1) := by decide +kernel
theorem dX10_lies_10 : decode cX10_lies 10 = .ok (.aload_n 0, 1) := by decide +kernel
theorem dX10_lies_11 : decode cX10_lies 11 = .ok (.getfield 10, 3) := by decide +kernel
theorem dX10_lies_14 : decode cX10_lies 14 = .ok (.iload_n 1, 1) := by decide +kernel
theorem dX10_lies_15 : decode cX10_lies 15 = .ok (.invokevirtual 72, 3) := by decide +kernel
theorem dX10_lies_18 : decode cX10_lies 18 = .ok (.ifCond .eq 7, 3) := by decide +kernel
theorem dX10_lies_21 : decode cX10_lies 21 = .ok (.iconst 1, 1) := by decide +kernel
theorem dX10_lies_22 : decode cX10_lies 22 = .ok (.goto 4, 3) := by decide +kernel
theorem dX10_lies_25 : decode cX10_lies 25 = .ok (.iconst 0, 1) := by decide +kernel
theorem dX10_lies_26 : decode cX10_lies 26 = .ok (.ireturn, 1) := by decide +kernel
theorem dX10_far_0 : decode cX10_far 0 = .ok (.iload_n 1, 1) := by decide +kernel
theorem dX10_far_1 : decode cX10_far 1 = .ok (.invokestatic 39, 3) := by decide +kernel
theorem dX10_far_4 : decode cX10_far 4 = .ok (.ifCond .ne 6, 3) := by decide +kernel
theorem dX10_far_7 : decode cX10_far 7 = .ok (.bipush (-2), 2) := by decide +kernel
theorem dX10_far_9 : decode cX10_far 9 = .ok (.ireturn, 1) := by decide +kernel
theorem dX10_far_10 : decode cX10_far 10 = .ok (.aload_n 0, 1) := by decide +kernel
theorem dX10_far_11 : decode cX10_far 11 = .ok (.iload_n 1, 1) := by decide +kernel
theorem dX10_far_12 : decode cX10_far 12 = .ok (.invokevirtual 75, 3) := by decide +kernel
theorem dX10_far_15 : decode cX10_far 15 = .ok (.istore_n 2, 1) := by decide +kernel
theorem dX10_far_16 : decode cX10_far 16 = .ok (.iload_n 2, 1) := by decide +kernel
theorem dX10_far_17 : decode cX10_far 17 = .ok (.ldc 78, 2) := by decide +kernel
theorem dX10_far_19 : decode cX10_far 19 = .ok (.if_icmp .ge 7, 3) := by decide +kernel
theorem dX10_far_22 : decode cX10_far 22 = .ok (.iload_n 2, 1) := by decide +kernel
theorem dX10_far_23 : decode cX10_far 23 = .ok (.goto 4, 3) := by decide +kernel
theorem dX10_far_26 : decode cX10_far 26 = .ok (.iconst (-1), 1) := by decide +kernel
theorem dX10_far_27 : decode cX10_far 27 = .ok (.ireturn, 1) := by decide +kernel
theorem dX10_way_0 : decode cX10_way 0 = .ok (.iload_n 1, 1) := by decide +kernel
theorem dX10_way_1 : decode cX10_way 1 = .ok (.invokestatic 39, 3) := by decide +kernel
theorem dX10_way_4 : decode cX10_way 4 = .ok (.ifCond .ne 6, 3) := by decide +kernel
theorem dX10_way_7 : decode cX10_way 7 = .ok (.bipush (-2), 2) := by decide +kernel
theorem dX10_way_9 : decode cX10_way 9 = .ok (.ireturn, 1) := by decide +kernel
theorem dX10_way_10 : decode cX10_way 10 = .ok (.aload_n 0, 1) := by decide +kernel
theorem dX10_way_11 : decode cX10_way 11 = .ok (.getfield 79, 3) := by decide +kernel
theorem dX10_way_14 : decode cX10_way 14 = .ok (.ifnull 14, 3) := by decide +kernel
theorem dX10_way_17 : decode cX10_way 17 = .ok (.aload_n 0, 1) := by decide +kernel
theorem dX10_way_18 : decode cX10_way 18 = .ok (.getfield 79, 3) := by decide +kernel
theorem dX10_way_21 : decode cX10_way 21 = .ok (.iload_n 1, 1) := by decide +kernel
theorem dX10_way_22 : decode cX10_way 22 = .ok (.invokevirtual 83, 3) := by decide +kernel
theorem dX10_way_25 : decode cX10_way 25 = .ok (.ifCond .ne 13, 3) := by decide +kernel
theorem dX10_way_28 : decode cX10_way 28 = .ok (.aload_n 0, 1) := by decide +kernel
theorem dX10_way_29 : decode cX10_way 29 = .ok (.iload_n 1, 1) := by decide +kernel
theorem dX10_way_30 : decode cX10_way 30 = .ok (.aload_n 0, 1) := by decide +kernel
theorem dX10_way_31 : decode cX10_way 31 = .ok (.iload_n 1, 1) := by decide +kernel
theorem dX10_way_32 : decode cX10_way 32 = .ok (.invokevirtual 75, 3) := by decide +kernel
theorem dX10_way_35 : decode cX10_way 35 = .ok (.invokevirtual 88, 3) := by decide +kernel
theorem dX10_way_38 : decode cX10_way 38 = .ok (.aload_n 0, 1) := by decide +kernel
theorem dX10_way_39 : decode cX10_way 39 = .ok (.getfield 79, 3) := by decide +kernel
theorem dX10_way_42 : decode cX10_way 42 = .ok (.ifnonnull 7, 3) := by decide +kernel
theorem dX10_way_45 : decode cX10_way 45 = .ok (.iconst (-1), 1) := by decide +kernel
theorem dX10_way_46 : decode cX10_way 46 = .ok (.goto 11, 3) := by decide +kernel
theorem dX10_way_49 : decode cX10_way 49 = .ok (.aload_n 0, 1) := by decide +kernel
theorem dX10_way_50 : decode cX10_way 50 = .ok (.getfield 79, 3) := by decide +kernel
theorem dX10_way_53 : decode cX10_way 53 = .ok (.iload_n 2, 1) := by decide +kernel
theorem dX10_way_54 : decode cX10_way 54 = .ok (.invokevirtual 92, 3) := by decide +kernel
theorem dX10_way_57 : decode cX10_way 57 = .ok (.ireturn, 1) := by decide +kernel
theorem dX10_after_0 : decode cX10_after 0 = .ok (.iload_n 1, 1) := by decide +kernel
theorem dX10_after_1 : decode cX10_after 1 = .ok (.invokestatic 39, 3) := by decide +kernel
theorem dX10_after_4 : decode cX10_after 4 = .ok (.ifCond .ne 6, 3) := by decide +kernel
theorem dX10_after_7 : decode cX10_after 7 = .ok (.bipush (-2), 2) := by decide +kernel
theorem dX10_after_9 : decode cX10_after 9 = .ok (.ireturn, 1) := by decide +kernel
theorem dX10_after_10 : decode cX10_after 10 = .ok (.aload_n 0, 1) := by decide +kernel
theorem dX10_after_11 : decode cX10_after 11 = .ok (.getfield 95, 3) := by decide +kernel
theorem dX10_after_14 : decode cX10_after 14 = .ok (.ifnonnull 18, 3) := by decide +kernel
theorem dX10_after_17 : decode cX10_after 17 = .ok (.aload_n 0, 1) := by decide +kernel
theorem dX10_after_18 : decode cX10_after 18 = .ok (.new 99, 3) := by decide +kernel
theorem dX10_after_21 : decode cX10_after 21 = .ok (.dup, 1) := by decide +kernel
theorem dX10_after_22 : decode cX10_after 22 = .ok (.aload_n 0, 1) := by decide +kernel
theorem dX10_after_23 : decode cX10_after 23 = .ok (.getfield 10, 3) := by decide +kernel
theorem dX10_after_26 : decode cX10_after 26 = .ok (.invokespecial 101, 3) := by decide +kernel
theorem dX10_after_29 : decode cX10_after 29 = .ok (.putfield 95, 3) := by decide +kernel
theorem dX10_after_32 : decode cX10_after 32 = .ok (.aload_n 0, 1) := by decide +kernel
theorem dX10_after_33 : decode cX10_after 33 = .ok (.getfield 95, 3) := by decide +kernel
theorem dX10_after_36 : decode cX10_after 36 = .ok (.iload_n 1, 1) := by decide +kernel
theorem dX10_after_37 : decode cX10_after 37 = .ok (.invokevirtual 104, 3) := by decide +kernel
theorem dX10_after_40 : decode cX10_after 40 = .ok (.ifCond .eq 7, 3) := by decide +kernel
theorem dX10_after_43 : decode cX10_after 43 = .ok (.iconst 1, 1) := by decide +kernel
theorem dX10_after_44 : decode cX10_after 44 = .ok (.goto 4, 3) := by decide +kernel
theorem dX10_after_47 : decode cX10_after 47 = .ok (.iconst 0, 1) := by decide +kernel
theorem dX10_after_48 : decode cX10_after 48 = .ok (.ireturn, 1) := by decide +kernel
theorem dX10_stepsFrom_0 : decode cX10_stepsFrom 0 = .ok (.aload_n 0, 1) := by decide +kernel
theorem dX10_stepsFrom_1 : decode cX10_stepsFrom 1 = .ok (.getfield 105, 3) := by decide +kernel
theorem dX10_stepsFrom_4 : decode cX10_stepsFrom 4 = .ok (.ifnonnull 18, 3) := by decide +kernel
theorem dX10_stepsFrom_7 : decode cX10_stepsFrom 7 = .ok (.aload_n 0, 1) := by decide +kernel
theorem dX10_stepsFrom_8 : decode cX10_stepsFrom 8 = .ok (.new 109, 3) := by decide +kernel
theorem dX10_stepsFrom_11 : decode cX10_stepsFrom 11 = .ok (.dup, 1) := by decide +kernel
theorem dX10_stepsFrom_12 : decode cX10_stepsFrom 12 = .ok (.aload_n 0, 1) := by decide +kernel
theorem dX10_stepsFrom_13 : decode cX10_stepsFrom 13 = .ok (.getfield 10, 3) := by decide +kernel
theorem dX10_stepsFrom_16 : decode cX10_stepsFrom 16 = .ok (.invokespecial 111, 3) := by decide +kernel
theorem dX10_stepsFrom_19 : decode cX10_stepsFrom 19 = .ok (.putfield 105, 3) := by decide +kernel
theorem dX10_stepsFrom_22 : decode cX10_stepsFrom 22 = .ok (.aload_n 0, 1) := by decide +kernel
theorem dX10_stepsFrom_23 : decode cX10_stepsFrom 23 = .ok (.getfield 112, 3) := by decide +kernel
theorem dX10_stepsFrom_26 : decode cX10_stepsFrom 26 = .ok (.ifnonnull 20, 3) := by decide +kernel
theorem dX10_stepsFrom_29 : decode cX10_stepsFrom 29 = .ok (.aload_n 0, 1) := by decide +kernel
theorem dX10_stepsFrom_30 : decode cX10_stepsFrom 30 = .ok (.new 116, 3) := by decide +kernel
theorem dX10_stepsFrom_33 : decode cX10_stepsFrom 33 = .ok (.dup, 1) := by decide +kernel
theorem dX10_stepsFrom_34 : decode cX10_stepsFrom 34 = .ok (.aload_n 0, 1) := by decide +kernel
theorem dX10_stepsFrom_35 : decode cX10_stepsFrom 35 = .ok (.getfield 105, 3) := by decide +kernel
theorem dX10_stepsFrom_38 : decode cX10_stepsFrom 38 = .ok (.bipush 30, 2) := by decide +kernel
theorem dX10_stepsFrom_40 : decode cX10_stepsFrom 40 = .ok (.invokespecial 118, 3) := by decide +kernel
theorem dX10_stepsFrom_43 : decode cX10_stepsFrom 43 = .ok (.putfield 112, 3) := by decide +kernel
theorem dX10_stepsFrom_46 : decode cX10_stepsFrom 46 = .ok (.aload_n 0, 1) := by decide +kernel
theorem dX10_stepsFrom_47 : decode cX10_stepsFrom 47 = .ok (.getfield 105, 3) := by decide +kernel
theorem dX10_stepsFrom_50 : decode cX10_stepsFrom 50 = .ok (.invokevirtual 121, 3) := by decide +kernel
theorem dX10_stepsFrom_53 : decode cX10_stepsFrom 53 = .ok (.aload_n 0, 1) := by decide +kernel
theorem dX10_stepsFrom_54 : decode cX10_stepsFrom 54 = .ok (.getfield 112, 3) := by decide +kernel
theorem dX10_stepsFrom_57 : decode cX10_stepsFrom 57 = .ok (.aload_n 0, 1) := by decide +kernel
theorem dX10_stepsFrom_58 : decode cX10_stepsFrom 58 = .ok (.getfield 10, 3) := by decide +kernel
theorem dX10_stepsFrom_61 : decode cX10_stepsFrom 61 = .ok (.invokevirtual 124, 3) := by decide +kernel
theorem dX10_stepsFrom_64 : decode cX10_stepsFrom 64 = .ok (.aload_n 0, 1) := by decide +kernel
theorem dX10_stepsFrom_65 : decode cX10_stepsFrom 65 = .ok (.getfield 112, 3) := by decide +kernel
theorem dX10_stepsFrom_68 : decode cX10_stepsFrom 68 = .ok (.iload_n 1, 1) := by decide +kernel
theorem dX10_stepsFrom_69 : decode cX10_stepsFrom 69 = .ok (.invokevirtual 127, 3) := by decide +kernel
theorem dX10_stepsFrom_72 : decode cX10_stepsFrom 72 = .ok (.ireturn, 1) := by decide +kernel
theorem dX10_findWay_0 : decode cX10_findWay 0 = .ok (.aload_n 0, 1) := by decide +kernel
theorem dX10_findWay_1 : decode cX10_findWay 1 = .ok (.getfield 79, 3) := by decide +kernel
theorem dX10_findWay_4 : decode cX10_findWay 4 = .ok (.ifnonnull 42, 3) := by decide +kernel
theorem dX10_findWay_7 : decode cX10_findWay 7 = .ok (.aload_n 0, 1) := by decide +kernel
theorem dX10_findWay_8 : decode cX10_findWay 8 = .ok (.getfield 105, 3) := by decide +kernel
theorem dX10_findWay_11 : decode cX10_findWay 11 = .ok (.ifnull 15, 3) := by decide +kernel
theorem dX10_findWay_14 : decode cX10_findWay 14 = .ok (.iload_n 2, 1) := by decide +kernel
theorem dX10_findWay_15 : decode cX10_findWay 15 = .ok (.iconst 1, 1) := by decide +kernel
theorem dX10_findWay_16 : decode cX10_findWay 16 = .ok (.if_icmp .lt 10, 3) := by decide +kernel
theorem dX10_findWay_19 : decode cX10_findWay 19 = .ok (.iload_n 2, 1) := by decide +kernel
theorem dX10_findWay_20 : decode cX10_findWay 20 = .ok (.sipush 2000, 3) := by decide +kernel
theorem dX10_findWay_23 : decode cX10_findWay 23 = .ok (.if_icmp .le 4, 3) := by decide +kernel
theorem dX10_findWay_26 : decode cX10_findWay 26 = .ok (.return_, 1) := by decide +kernel
theorem dX10_findWay_27 : decode cX10_findWay 27 = .ok (.aload_n 0, 1) := by decide +kernel
theorem dX10_findWay_28 : decode cX10_findWay 28 = .ok (.new 84, 3) := by decide +kernel
theorem dX10_findWay_31 : decode cX10_findWay 31 = .ok (.dup, 1) := by decide +kernel
theorem dX10_findWay_32 : decode cX10_findWay 32 = .ok (.aload_n 0, 1) := by decide +kernel
theorem dX10_findWay_33 : decode cX10_findWay 33 = .ok (.getfield 10, 3) := by decide +kernel
theorem dX10_findWay_36 : decode cX10_findWay 36 = .ok (.aload_n 0, 1) := by decide +kernel
theorem dX10_findWay_37 : decode cX10_findWay 37 = .ok (.getfield 105, 3) := by decide +kernel
theorem dX10_findWay_40 : decode cX10_findWay 40 = .ok (.invokespecial 128, 3) := by decide +kernel
theorem dX10_findWay_43 : decode cX10_findWay 43 = .ok (.putfield 79, 3) := by decide +kernel
theorem dX10_findWay_46 : decode cX10_findWay 46 = .ok (.aload_n 0, 1) := by decide +kernel
theorem dX10_findWay_47 : decode cX10_findWay 47 = .ok (.getfield 79, 3) := by decide +kernel
theorem dX10_findWay_50 : decode cX10_findWay 50 = .ok (.iload_n 1, 1) := by decide +kernel
theorem dX10_findWay_51 : decode cX10_findWay 51 = .ok (.iload_n 2, 1) := by decide +kernel
theorem dX10_findWay_52 : decode cX10_findWay 52 = .ok (.invokevirtual 131, 3) := by decide +kernel
theorem dX10_findWay_55 : decode cX10_findWay 55 = .ok (.return_, 1) := by decide +kernel
theorem dX10_type_0 : decode cX10_type 0 = .ok (.iload_n 3, 1) := by decide +kernel
theorem dX10_type_1 : decode cX10_type 1 = .ok (.iconst 1, 1) := by decide +kernel
theorem dX10_type_2 : decode cX10_type 2 = .ok (.if_icmp .lt 9, 3) := by decide +kernel
theorem dX10_type_5 : decode cX10_type 5 = .ok (.iload_n 3, 1) := by decide +kernel
theorem dX10_type_6 : decode cX10_type 6 = .ok (.bipush 8, 2) := by decide +kernel
theorem dX10_type_8 : decode cX10_type 8 = .ok (.if_icmp .le 6, 3) := by decide +kernel
theorem dX10_type_11 : decode cX10_type 11 = .ok (.bipush (-2), 2) := by decide +kernel
theorem dX10_type_13 : decode cX10_type 13 = .ok (.ireturn, 1) := by decide +kernel
theorem dX10_type_14 : decode cX10_type 14 = .ok (.aload_n 0, 1) := by decide +kernel
theorem dX10_type_15 : decode cX10_type 15 = .ok (.getfield 19, 3) := by decide +kernel
theorem dX10_type_18 : decode cX10_type 18 = .ok (.lload_n 1, 1) := by decide +kernel
theorem dX10_type_19 : decode cX10_type 19 = .ok (.iload_n 3, 1) := by decide +kernel
theorem dX10_type_20 : decode cX10_type 20 = .ok (.invokevirtual 134, 3) := by decide +kernel
theorem dX10_type_23 : decode cX10_type 23 = .ok (.ireturn, 1) := by decide +kernel
theorem dX10_read_0 : decode cX10_read 0 = .ok (.aload_n 0, 1) := by decide +kernel
theorem dX10_read_1 : decode cX10_read 1 = .ok (.iconst 0, 1) := by decide +kernel
theorem dX10_read_2 : decode cX10_read 2 = .ok (.putfield 138, 3) := by decide +kernel
theorem dX10_read_5 : decode cX10_read 5 = .ok (.aload_n 0, 1) := by decide +kernel
theorem dX10_read_6 : decode cX10_read 6 = .ok (.getfield 35, 3) := by decide +kernel
theorem dX10_read_9 : decode cX10_read 9 = .ok (.invokevirtual 142, 3) := by decide +kernel
theorem dX10_read_12 : decode cX10_read 12 = .ok (.aload_n 0, 1) := by decide +kernel
theorem dX10_read_13 : decode cX10_read 13 = .ok (.getfield 19, 3) := by decide +kernel
theorem dX10_read_16 : decode cX10_read 16 = .ok (.getfield 145, 3) := by decide +kernel
theorem dX10_read_19 : decode cX10_read 19 = .ok (.ifCond .ne 13, 3) := by decide +kernel
theorem dX10_read_22 : decode cX10_read 22 = .ok (.aload_n 0, 1) := by decide +kernel
theorem dX10_read_23 : decode cX10_read 23 = .ok (.getfield 26, 3) := by decide +kernel
theorem dX10_read_26 : decode cX10_read 26 = .ok (.getfield 149, 3) := by decide +kernel
theorem dX10_read_29 : decode cX10_read 29 = .ok (.goto 13, 3) := by decide +kernel
theorem dX10_read_32 : decode cX10_read 32 = .ok (.bipush (-10), 2) := by decide +kernel
theorem dX10_read_34 : decode cX10_read 34 = .ok (.aload_n 0, 1) := by decide +kernel
theorem dX10_read_35 : decode cX10_read 35 = .ok (.getfield 19, 3) := by decide +kernel
theorem dX10_read_38 : decode cX10_read 38 = .ok (.getfield 145, 3) := by decide +kernel
theorem dX10_read_41 : decode cX10_read 41 = .ok (.isub, 1) := by decide +kernel
theorem dX10_read_42 : decode cX10_read 42 = .ok (.ireturn, 1) := by decide +kernel
theorem dX10_place_0 : decode cX10_place 0 = .ok (.aload_n 0, 1) := by decide +kernel
theorem dX10_place_1 : decode cX10_place 1 = .ok (.getfield 19, 3) := by decide +kernel
theorem dX10_place_4 : decode cX10_place 4 = .ok (.getfield 145, 3) := by decide +kernel
theorem dX10_place_7 : decode cX10_place 7 = .ok (.ifCond .ne 7, 3) := by decide +kernel
theorem dX10_place_10 : decode cX10_place 10 = .ok (.iconst (-1), 1) := by decide +kernel
theorem dX10_place_11 : decode cX10_place 11 = .ok (.goto 10, 3) := by decide +kernel
theorem dX10_place_14 : decode cX10_place 14 = .ok (.aload_n 0, 1) := by decide +kernel
theorem dX10_place_15 : decode cX10_place 15 = .ok (.getfield 19, 3) := by decide +kernel
theorem dX10_place_18 : decode cX10_place 18 = .ok (.getfield 152, 3) := by decide +kernel
theorem dX10_place_21 : decode cX10_place 21 = .ok (.ireturn, 1) := by decide +kernel
theorem dX10_told_0 : decode cX10_told 0 = .ok (.iload_n 1, 1) := by decide +kernel
theorem dX10_told_1 : decode cX10_told 1 = .ok (.tableswitch 51 0 2 #[27, 35, 43], 27) := by decide +kernel
theorem dX10_told_28 : decode cX10_told 28 = .ok (.aload_n 0, 1) := by decide +kernel
theorem dX10_told_29 : decode cX10_told 29 = .ok (.getfield 26, 3) := by decide +kernel
theorem dX10_told_32 : decode cX10_told 32 = .ok (.getfield 155, 3) := by decide +kernel
theorem dX10_told_35 : decode cX10_told 35 = .ok (.ireturn, 1) := by decide +kernel
theorem dX10_told_36 : decode cX10_told 36 = .ok (.aload_n 0, 1) := by decide +kernel
theorem dX10_told_37 : decode cX10_told 37 = .ok (.getfield 26, 3) := by decide +kernel
theorem dX10_told_40 : decode cX10_told 40 = .ok (.getfield 158, 3) := by decide +kernel
theorem dX10_told_43 : decode cX10_told 43 = .ok (.ireturn, 1) := by decide +kernel
theorem dX10_told_44 : decode cX10_told 44 = .ok (.aload_n 0, 1) := by decide +kernel
theorem dX10_told_45 : decode cX10_told 45 = .ok (.getfield 26, 3) := by decide +kernel
theorem dX10_told_48 : decode cX10_told 48 = .ok (.getfield 149, 3) := by decide +kernel
theorem dX10_told_51 : decode cX10_told 51 = .ok (.ireturn, 1) := by decide +kernel
theorem dX10_told_52 : decode cX10_told 52 = .ok (.aload_n 0, 1) := by decide +kernel
theorem dX10_told_53 : decode cX10_told 53 = .ok (.getfield 26, 3) := by decide +kernel
theorem dX10_told_56 : decode cX10_told 56 = .ok (.iload_n 1, 1) := by decide +kernel
theorem dX10_told_57 : decode cX10_told 57 = .ok (.iload_n 2, 1) := by decide +kernel
theorem dX10_told_58 : decode cX10_told 58 = .ok (.invokevirtual 161, 3) := by decide +kernel
theorem dX10_told_61 : decode cX10_told 61 = .ok (.ireturn, 1) := by decide +kernel
theorem dX10_check_0 : decode cX10_check 0 = .ok (.aload_n 0, 1) := by decide +kernel
theorem dX10_check_1 : decode cX10_check 1 = .ok (.getfield 26, 3) := by decide +kernel
theorem dX10_check_4 : decode cX10_check 4 = .ok (.getfield 164, 3) := by decide +kernel
theorem dX10_check_7 : decode cX10_check 7 = .ok (.ifCond .ne 6, 3) := by decide +kernel
theorem dX10_check_10 : decode cX10_check 10 = .ok (.bipush (-2), 2) := by decide +kernel
theorem dX10_check_12 : decode cX10_check 12 = .ok (.ireturn, 1) := by decide +kernel
theorem dX10_check_13 : decode cX10_check 13 = .ok (.aload_n 0, 1) := by decide +kernel
theorem dX10_check_14 : decode cX10_check 14 = .ok (.getfield 138, 3) := by decide +kernel
theorem dX10_check_17 : decode cX10_check 17 = .ok (.ifCond .ne 16, 3) := by decide +kernel
theorem dX10_check_20 : decode cX10_check 20 = .ok (.aload_n 0, 1) := by decide +kernel
theorem dX10_check_21 : decode cX10_check 21 = .ok (.aload_n 0, 1) := by decide +kernel
theorem dX10_check_22 : decode cX10_check 22 = .ok (.invokevirtual 167, 3) := by decide +kernel
theorem dX10_check_25 : decode cX10_check 25 = .ok (.putfield 170, 3) := by decide +kernel
theorem dX10_check_28 : decode cX10_check 28 = .ok (.aload_n 0, 1) := by decide +kernel
theorem dX10_check_29 : decode cX10_check 29 = .ok (.iconst 1, 1) := by decide +kernel
theorem dX10_check_30 : decode cX10_check 30 = .ok (.putfield 138, 3) := by decide +kernel
theorem dX10_check_33 : decode cX10_check 33 = .ok (.aload_n 0, 1) := by decide +kernel
theorem dX10_check_34 : decode cX10_check 34 = .ok (.getfield 170, 3) := by decide +kernel
theorem dX10_check_37 : decode cX10_check 37 = .ok (.ireturn, 1) := by decide +kernel
theorem dX10_trace_0 : decode cX10_trace 0 = .ok (.iload_n 2, 1) := by decide +kernel
theorem dX10_trace_1 : decode cX10_trace 1 = .ok (.ifCond .lt 8, 3) := by decide +kernel
theorem dX10_trace_4 : decode cX10_trace 4 = .ok (.iload_n 2, 1) := by decide +kernel
theorem dX10_trace_5 : decode cX10_trace 5 = .ok (.iconst 4, 1) := by decide +kernel
theorem dX10_trace_6 : decode cX10_trace 6 = .ok (.if_icmp .le 6, 3) := by decide +kernel
theorem dX10_trace_9 : decode cX10_trace 9 = .ok (.bipush (-2), 2) := by decide +kernel
theorem dX10_trace_11 : decode cX10_trace 11 = .ok (.ireturn, 1) := by decide +kernel
theorem dX10_trace_12 : decode cX10_trace 12 = .ok (.aload_n 0, 1) := by decide +kernel
theorem dX10_trace_13 : decode cX10_trace 13 = .ok (.getfield 173, 3) := by decide +kernel
theorem dX10_trace_16 : decode cX10_trace 16 = .ok (.ifnonnull 7, 3) := by decide +kernel
theorem dX10_trace_19 : decode cX10_trace 19 = .ok (.iconst (-1), 1) := by decide +kernel
theorem dX10_trace_20 : decode cX10_trace 20 = .ok (.goto 12, 3) := by decide +kernel
theorem dX10_trace_23 : decode cX10_trace 23 = .ok (.aload_n 0, 1) := by decide +kernel
theorem dX10_trace_24 : decode cX10_trace 24 = .ok (.getfield 173, 3) := by decide +kernel
theorem dX10_trace_27 : decode cX10_trace 27 = .ok (.iload_n 1, 1) := by decide +kernel
theorem dX10_trace_28 : decode cX10_trace 28 = .ok (.iload_n 2, 1) := by decide +kernel
theorem dX10_trace_29 : decode cX10_trace 29 = .ok (.invokevirtual 177, 3) := by decide +kernel
theorem dX10_trace_32 : decode cX10_trace 32 = .ok (.ireturn, 1) := by decide +kernel
theorem dX10_findFailure_0 : decode cX10_findFailure 0 = .ok (.aload_n 0, 1) := by decide +kernel
theorem dX10_findFailure_1 : decode cX10_findFailure 1 = .ok (.getfield 182, 3) := by decide +kernel
theorem dX10_findFailure_4 : decode cX10_findFailure 4 = .ok (.ifnonnull 18, 3) := by decide +kernel
theorem dX10_findFailure_7 : decode cX10_findFailure 7 = .ok (.aload_n 0, 1) := by decide +kernel
theorem dX10_findFailure_8 : decode cX10_findFailure 8 = .ok (.new 186, 3) := by decide +kernel
theorem dX10_findFailure_11 : decode cX10_findFailure 11 = .ok (.dup, 1) := by decide +kernel
theorem dX10_findFailure_12 : decode cX10_findFailure 12 = .ok (.aload_n 0, 1) := by decide +kernel
theorem dX10_findFailure_13 : decode cX10_findFailure 13 = .ok (.getfield 26, 3) := by decide +kernel
theorem dX10_findFailure_16 : decode cX10_findFailure 16 = .ok (.invokespecial 188, 3) := by decide +kernel
theorem dX10_findFailure_19 : decode cX10_findFailure 19 = .ok (.putfield 182, 3) := by decide +kernel
theorem dX10_findFailure_22 : decode cX10_findFailure 22 = .ok (.aload_n 0, 1) := by decide +kernel
theorem dX10_findFailure_23 : decode cX10_findFailure 23 = .ok (.getfield 182, 3) := by decide +kernel
theorem dX10_findFailure_26 : decode cX10_findFailure 26 = .ok (.invokevirtual 191, 3) := by decide +kernel
theorem dX10_findFailure_29 : decode cX10_findFailure 29 = .ok (.aload_n 0, 1) := by decide +kernel
theorem dX10_findFailure_30 : decode cX10_findFailure 30 = .ok (.getfield 182, 3) := by decide +kernel
theorem dX10_findFailure_33 : decode cX10_findFailure 33 = .ok (.invokevirtual 194, 3) := by decide +kernel
theorem dX10_findFailure_36 : decode cX10_findFailure 36 = .ok (.istore_n 1, 1) := by decide +kernel
theorem dX10_findFailure_37 : decode cX10_findFailure 37 = .ok (.aload_n 0, 1) := by decide +kernel
theorem dX10_findFailure_38 : decode cX10_findFailure 38 = .ok (.getfield 173, 3) := by decide +kernel
theorem dX10_findFailure_41 : decode cX10_findFailure 41 = .ok (.ifnull 10, 3) := by decide +kernel
theorem dX10_findFailure_44 : decode cX10_findFailure 44 = .ok (.aload_n 0, 1) := by decide +kernel
theorem dX10_findFailure_45 : decode cX10_findFailure 45 = .ok (.getfield 173, 3) := by decide +kernel
theorem dX10_findFailure_48 : decode cX10_findFailure 48 = .ok (.invokevirtual 197, 3) := by decide +kernel
theorem dX10_findFailure_51 : decode cX10_findFailure 51 = .ok (.iload_n 1, 1) := by decide +kernel
theorem dX10_findFailure_52 : decode cX10_findFailure 52 = .ok (.sipush 2000, 3) := by decide +kernel
theorem dX10_findFailure_55 : decode cX10_findFailure 55 = .ok (.if_icmp .le 15, 3) := by decide +kernel
theorem dX10_findFailure_58 : decode cX10_findFailure 58 = .ok (.iload_n 1, 1) := by decide +kernel
theorem dX10_findFailure_59 : decode cX10_findFailure 59 = .ok (.ldc 78, 2) := by decide +kernel
theorem dX10_findFailure_61 : decode cX10_findFailure 61 = .ok (.if_icmp .ge 7, 3) := by decide +kernel
theorem dX10_findFailure_64 : decode cX10_findFailure 64 = .ok (.iload_n 1, 1) := by decide +kernel
theorem dX10_findFailure_65 : decode cX10_findFailure 65 = .ok (.goto 4, 3) := by decide +kernel
theorem dX10_findFailure_68 : decode cX10_findFailure 68 = .ok (.iconst (-1), 1) := by decide +kernel
theorem dX10_findFailure_69 : decode cX10_findFailure 69 = .ok (.ireturn, 1) := by decide +kernel
theorem dX10_findFailure_70 : decode cX10_findFailure 70 = .ok (.aload_n 0, 1) := by decide +kernel
theorem dX10_findFailure_71 : decode cX10_findFailure 71 = .ok (.getfield 173, 3) := by decide +kernel
theorem dX10_findFailure_74 : decode cX10_findFailure 74 = .ok (.ifnonnull 22, 3) := by decide +kernel
theorem dX10_findFailure_77 : decode cX10_findFailure 77 = .ok (.aload_n 0, 1) := by decide +kernel
theorem dX10_findFailure_78 : decode cX10_findFailure 78 = .ok (.new 178, 3) := by decide +kernel
theorem dX10_findFailure_81 : decode cX10_findFailure 81 = .ok (.dup, 1) := by decide +kernel
theorem dX10_findFailure_82 : decode cX10_findFailure 82 = .ok (.aload_n 0, 1) := by decide +kernel
theorem dX10_findFailure_83 : decode cX10_findFailure 83 = .ok (.getfield 26, 3) := by decide +kernel
theorem dX10_findFailure_86 : decode cX10_findFailure 86 = .ok (.aload_n 0, 1) := by decide +kernel
theorem dX10_findFailure_87 : decode cX10_findFailure 87 = .ok (.getfield 182, 3) := by decide +kernel
theorem dX10_findFailure_90 : decode cX10_findFailure 90 = .ok (.invokespecial 200, 3) := by decide +kernel
theorem dX10_findFailure_93 : decode cX10_findFailure 93 = .ok (.putfield 173, 3) := by decide +kernel
theorem dX10_findFailure_96 : decode cX10_findFailure 96 = .ok (.aload_n 0, 1) := by decide +kernel
theorem dX10_findFailure_97 : decode cX10_findFailure 97 = .ok (.getfield 173, 3) := by decide +kernel
theorem dX10_findFailure_100 : decode cX10_findFailure 100 = .ok (.iload_n 1, 1) := by decide +kernel
theorem dX10_findFailure_101 : decode cX10_findFailure 101 = .ok (.invokevirtual 203, 3) := by decide +kernel
theorem dX10_findFailure_104 : decode cX10_findFailure 104 = .ok (.iload_n 1, 1) := by decide +kernel
theorem dX10_findFailure_105 : decode cX10_findFailure 105 = .ok (.ireturn, 1) := by decide +kernel
theorem dX10_isState_0 : decode cX10_isState 0 = .ok (.iload_n 0, 1) := by decide +kernel
theorem dX10_isState_1 : decode cX10_isState 1 = .ok (.ifCond .lt 13, 3) := by decide +kernel
theorem dX10_isState_4 : decode cX10_isState 4 = .ok (.iload_n 0, 1) := by decide +kernel
theorem dX10_isState_5 : decode cX10_isState 5 = .ok (.bipush 8, 2) := by decide +kernel
theorem dX10_isState_7 : decode cX10_isState 7 = .ok (.if_icmp .ge 7, 3) := by decide +kernel
theorem dX10_isState_10 : decode cX10_isState 10 = .ok (.iconst 1, 1) := by decide +kernel
theorem dX10_isState_11 : decode cX10_isState 11 = .ok (.goto 4, 3) := by decide +kernel
theorem dX10_isState_14 : decode cX10_isState 14 = .ok (.iconst 0, 1) := by decide +kernel
theorem dX10_isState_15 : decode cX10_isState 15 = .ok (.ireturn, 1) := by decide +kernel
theorem dX10_isSign_0 : decode cX10_isSign 0 = .ok (.iload_n 0, 1) := by decide +kernel
theorem dX10_isSign_1 : decode cX10_isSign 1 = .ok (.ifCond .lt 13, 3) := by decide +kernel
theorem dX10_isSign_4 : decode cX10_isSign 4 = .ok (.iload_n 0, 1) := by decide +kernel
theorem dX10_isSign_5 : decode cX10_isSign 5 = .ok (.bipush 12, 2) := by decide +kernel
theorem dX10_isSign_7 : decode cX10_isSign 7 = .ok (.if_icmp .ge 7, 3) := by decide +kernel
theorem dX10_isSign_10 : decode cX10_isSign 10 = .ok (.iconst 1, 1) := by decide +kernel
theorem dX10_isSign_11 : decode cX10_isSign 11 = .ok (.goto 4, 3) := by decide +kernel
theorem dX10_isSign_14 : decode cX10_isSign 14 = .ok (.iconst 0, 1) := by decide +kernel
theorem dX10_isSign_15 : decode cX10_isSign 15 = .ok (.ireturn, 1) := by decide +kernel
theorem dX10_isNode_0 : decode cX10_isNode 0 = .ok (.iload_n 0, 1) := by decide +kernel
theorem dX10_isNode_1 : decode cX10_isNode 1 = .ok (.ifCond .lt 13, 3) := by decide +kernel
theorem dX10_isNode_4 : decode cX10_isNode 4 = .ok (.iload_n 0, 1) := by decide +kernel
theorem dX10_isNode_5 : decode cX10_isNode 5 = .ok (.bipush 16, 2) := by decide +kernel
theorem dX10_isNode_7 : decode cX10_isNode 7 = .ok (.if_icmp .ge 7, 3) := by decide +kernel
theorem dX10_isNode_10 : decode cX10_isNode 10 = .ok (.iconst 1, 1) := by decide +kernel
theorem dX10_isNode_11 : decode cX10_isNode 11 = .ok (.goto 4, 3) := by decide +kernel
theorem dX10_isNode_14 : decode cX10_isNode 14 = .ok (.iconst 0, 1) := by decide +kernel
theorem dX10_isNode_15 : decode cX10_isNode 15 = .ok (.ireturn, 1) := by decide +kernel
theorem dX10_sum_0 : decode cX10_sum 0 = .ok (.iload_n 0, 1) := by decide +kernel
theorem dX10_sum_1 : decode cX10_sum 1 = .ok (.ldc 78, 2) := by decide +kernel
theorem dX10_sum_3 : decode cX10_sum 3 = .ok (.if_icmp .ge 9, 3) := by decide +kernel
theorem dX10_sum_6 : decode cX10_sum 6 = .ok (.iload_n 1, 1) := by decide +kernel
theorem dX10_sum_7 : decode cX10_sum 7 = .ok (.ldc 78, 2) := by decide +kernel
theorem dX10_sum_9 : decode cX10_sum 9 = .ok (.if_icmp .lt 6, 3) := by decide +kernel
theorem dX10_sum_12 : decode cX10_sum 12 = .ok (.ldc 78, 2) := by decide +kernel
theorem dX10_sum_14 : decode cX10_sum 14 = .ok (.ireturn, 1) := by decide +kernel
theorem dX10_sum_15 : decode cX10_sum 15 = .ok (.iload_n 0, 1) := by decide +kernel
theorem dX10_sum_16 : decode cX10_sum 16 = .ok (.iload_n 1, 1) := by decide +kernel
theorem dX10_sum_17 : decode cX10_sum 17 = .ok (.iadd, 1) := by decide +kernel
theorem dX10_sum_18 : decode cX10_sum 18 = .ok (.ldc 207, 2) := by decide +kernel
theorem dX10_sum_20 : decode cX10_sum 20 = .ok (.invokestatic 208, 3) := by decide +kernel
theorem dX10_sum_23 : decode cX10_sum 23 = .ok (.ireturn, 1) := by decide +kernel
