theorem dX4_advance_95 : decode cX4_advance 95 = .ok (.baload, 1) := by decide +kernel
theorem dX4_advance_96 : decode cX4_advance 96 = .ok (.sipush 255, 3) := by decide +kernel
theorem dX4_advance_99 : decode cX4_advance 99 = .ok (.iand, 1) := by decide +kernel
theorem dX4_advance_100 : decode cX4_advance 100 = .ok (.istore_n 1, 1) := by decide +kernel
theorem dX4_advance_101 : decode cX4_advance 101 = .ok (.iload_n 1, 1) := by decide +kernel
theorem dX4_advance_102 : decode cX4_advance 102 = .ok (.invokestatic 45, 3) := by decide +kernel
theorem dX4_advance_105 : decode cX4_advance 105 = .ok (.ifCond .eq 10, 3) := by decide +kernel
theorem dX4_advance_108 : decode cX4_advance 108 = .ok (.aload_n 0, 1) := by decide +kernel
theorem dX4_advance_109 : decode cX4_advance 109 = .ok (.invokevirtual 49, 3) := by decide +kernel
theorem dX4_advance_112 : decode cX4_advance 112 = .ok (.goto 40, 3) := by decide +kernel
theorem dX4_advance_115 : decode cX4_advance 115 = .ok (.ldc 52, 2) := by decide +kernel
theorem dX4_advance_117 : decode cX4_advance 117 = .ok (.iload_n 1, 1) := by decide +kernel
theorem dX4_advance_118 : decode cX4_advance 118 = .ok (.i2c, 1) := by decide +kernel
theorem dX4_advance_119 : decode cX4_advance 119 = .ok (.invokevirtual 54, 3) := by decide +kernel
theorem dX4_advance_122 : decode cX4_advance 122 = .ok (.ifCond .lt 21, 3) := by decide +kernel
theorem dX4_advance_125 : decode cX4_advance 125 = .ok (.aload_n 0, 1) := by decide +kernel
theorem dX4_advance_126 : decode cX4_advance 126 = .ok (.iload_n 1, 1) := by decide +kernel
theorem dX4_advance_127 : decode cX4_advance 127 = .ok (.putfield 31, 3) := by decide +kernel
theorem dX4_advance_130 : decode cX4_advance 130 = .ok (.aload_n 0, 1) := by decide +kernel
theorem dX4_advance_131 : decode cX4_advance 131 = .ok (.dup, 1) := by decide +kernel
theorem dX4_advance_132 : decode cX4_advance 132 = .ok (.getfield 19, 3) := by decide +kernel
theorem dX4_advance_135 : decode cX4_advance 135 = .ok (.iconst 1, 1) := by decide +kernel
theorem dX4_advance_136 : decode cX4_advance 136 = .ok (.iadd, 1) := by decide +kernel
theorem dX4_advance_137 : decode cX4_advance 137 = .ok (.putfield 19, 3) := by decide +kernel
theorem dX4_advance_140 : decode cX4_advance 140 = .ok (.goto 12, 3) := by decide +kernel
theorem dX4_advance_143 : decode cX4_advance 143 = .ok (.aload_n 0, 1) := by decide +kernel
theorem dX4_advance_144 : decode cX4_advance 144 = .ok (.iconst 1, 1) := by decide +kernel
theorem dX4_advance_145 : decode cX4_advance 145 = .ok (.aload_n 0, 1) := by decide +kernel
theorem dX4_advance_146 : decode cX4_advance 146 = .ok (.getfield 34, 3) := by decide +kernel
theorem dX4_advance_149 : decode cX4_advance 149 = .ok (.invokevirtual 37, 3) := by decide +kernel
theorem dX4_advance_152 : decode cX4_advance 152 = .ok (.return_, 1) := by decide +kernel
theorem dX4_scanWord_0 : decode cX4_scanWord 0 = .ok (.aload_n 0, 1) := by decide +kernel
theorem dX4_scanWord_1 : decode cX4_scanWord 1 = .ok (.lconst 0, 1) := by decide +kernel
theorem dX4_scanWord_2 : decode cX4_scanWord 2 = .ok (.putfield 60, 3) := by decide +kernel
theorem dX4_scanWord_5 : decode cX4_scanWord 5 = .ok (.aload_n 0, 1) := by decide +kernel
theorem dX4_scanWord_6 : decode cX4_scanWord 6 = .ok (.getfield 19, 3) := by decide +kernel
theorem dX4_scanWord_9 : decode cX4_scanWord 9 = .ok (.aload_n 0, 1) := by decide +kernel
theorem dX4_scanWord_10 : decode cX4_scanWord 10 = .ok (.getfield 15, 3) := by decide +kernel
theorem dX4_scanWord_13 : decode cX4_scanWord 13 = .ok (.if_icmp .ge 86, 3) := by decide +kernel
theorem dX4_scanWord_16 : decode cX4_scanWord 16 = .ok (.aload_n 0, 1) := by decide +kernel
theorem dX4_scanWord_17 : decode cX4_scanWord 17 = .ok (.getfield 9, 3) := by decide +kernel
theorem dX4_scanWord_20 : decode cX4_scanWord 20 = .ok (.aload_n 0, 1) := by decide +kernel
theorem dX4_scanWord_21 : decode cX4_scanWord 21 = .ok (.getfield 19, 3) := by decide +kernel
theorem dX4_scanWord_24 : decode cX4_scanWord 24 = .ok (.baload, 1) := by decide +kernel
theorem dX4_scanWord_25 : decode cX4_scanWord 25 = .ok (.invokestatic 45, 3) := by decide +kernel
theorem dX4_scanWord_28 : decode cX4_scanWord 28 = .ok (.ifCond .ne 18, 3) := by decide +kernel
theorem dX4_scanWord_31 : decode cX4_scanWord 31 = .ok (.aload_n 0, 1) := by decide +kernel
theorem dX4_scanWord_32 : decode cX4_scanWord 32 = .ok (.getfield 9, 3) := by decide +kernel
theorem dX4_scanWord_35 : decode cX4_scanWord 35 = .ok (.aload_n 0, 1) := by decide +kernel
theorem dX4_scanWord_36 : decode cX4_scanWord 36 = .ok (.getfield 19, 3) := by decide +kernel
theorem dX4_scanWord_39 : decode cX4_scanWord 39 = .ok (.baload, 1) := by decide +kernel
theorem dX4_scanWord_40 : decode cX4_scanWord 40 = .ok (.invokestatic 64, 3) := by decide +kernel
theorem dX4_scanWord_43 : decode cX4_scanWord 43 = .ok (.ifCond .eq 56, 3) := by decide +kernel
theorem dX4_scanWord_46 : decode cX4_scanWord 46 = .ok (.aload_n 0, 1) := by decide +kernel
theorem dX4_scanWord_47 : decode cX4_scanWord 47 = .ok (.getfield 19, 3) := by decide +kernel
theorem dX4_scanWord_50 : decode cX4_scanWord 50 = .ok (.aload_n 0, 1) := by decide +kernel
theorem dX4_scanWord_51 : decode cX4_scanWord 51 = .ok (.getfield 34, 3) := by decide +kernel
theorem dX4_scanWord_54 : decode cX4_scanWord 54 = .ok (.isub, 1) := by decide +kernel
theorem dX4_scanWord_55 : decode cX4_scanWord 55 = .ok (.istore_n 1, 1) := by decide +kernel
theorem dX4_scanWord_56 : decode cX4_scanWord 56 = .ok (.iload_n 1, 1) := by decide +kernel
theorem dX4_scanWord_57 : decode cX4_scanWord 57 = .ok (.bipush 8, 2) := by decide +kernel
theorem dX4_scanWord_59 : decode cX4_scanWord 59 = .ok (.if_icmp .ge 27, 3) := by decide +kernel
theorem dX4_scanWord_62 : decode cX4_scanWord 62 = .ok (.aload_n 0, 1) := by decide +kernel
theorem dX4_scanWord_63 : decode cX4_scanWord 63 = .ok (.dup, 1) := by decide +kernel
theorem dX4_scanWord_64 : decode cX4_scanWord 64 = .ok (.getfield 60, 3) := by decide +kernel
theorem dX4_scanWord_67 : decode cX4_scanWord 67 = .ok (.aload_n 0, 1) := by decide +kernel
theorem dX4_scanWord_68 : decode cX4_scanWord 68 = .ok (.getfield 9, 3) := by decide +kernel
theorem dX4_scanWord_71 : decode cX4_scanWord 71 = .ok (.aload_n 0, 1) := by decide +kernel
theorem dX4_scanWord_72 : decode cX4_scanWord 72 = .ok (.getfield 19, 3) := by decide +kernel
theorem dX4_scanWord_75 : decode cX4_scanWord 75 = .ok (.baload, 1) := by decide +kernel
theorem dX4_scanWord_76 : decode cX4_scanWord 76 = .ok (.i2l, 1) := by decide +kernel
theorem dX4_scanWord_77 : decode cX4_scanWord 77 = .ok (.bipush 8, 2) := by decide +kernel
theorem dX4_scanWord_79 : decode cX4_scanWord 79 = .ok (.iload_n 1, 1) := by decide +kernel
theorem dX4_scanWord_80 : decode cX4_scanWord 80 = .ok (.imul, 1) := by decide +kernel
theorem dX4_scanWord_81 : decode cX4_scanWord 81 = .ok (.lshl, 1) := by decide +kernel
theorem dX4_scanWord_82 : decode cX4_scanWord 82 = .ok (.lor, 1) := by decide +kernel
theorem dX4_scanWord_83 : decode cX4_scanWord 83 = .ok (.putfield 60, 3) := by decide +kernel
theorem dX4_scanWord_86 : decode cX4_scanWord 86 = .ok (.aload_n 0, 1) := by decide +kernel
theorem dX4_scanWord_87 : decode cX4_scanWord 87 = .ok (.dup, 1) := by decide +kernel
theorem dX4_scanWord_88 : decode cX4_scanWord 88 = .ok (.getfield 19, 3) := by decide +kernel
theorem dX4_scanWord_91 : decode cX4_scanWord 91 = .ok (.iconst 1, 1) := by decide +kernel
theorem dX4_scanWord_92 : decode cX4_scanWord 92 = .ok (.iadd, 1) := by decide +kernel
theorem dX4_scanWord_93 : decode cX4_scanWord 93 = .ok (.putfield 19, 3) := by decide +kernel
theorem dX4_scanWord_96 : decode cX4_scanWord 96 = .ok (.goto (-91), 3) := by decide +kernel
theorem dX4_scanWord_99 : decode cX4_scanWord 99 = .ok (.aload_n 0, 1) := by decide +kernel
theorem dX4_scanWord_100 : decode cX4_scanWord 100 = .ok (.getfield 19, 3) := by decide +kernel
theorem dX4_scanWord_103 : decode cX4_scanWord 103 = .ok (.aload_n 0, 1) := by decide +kernel
theorem dX4_scanWord_104 : decode cX4_scanWord 104 = .ok (.getfield 34, 3) := by decide +kernel
theorem dX4_scanWord_107 : decode cX4_scanWord 107 = .ok (.isub, 1) := by decide +kernel
theorem dX4_scanWord_108 : decode cX4_scanWord 108 = .ok (.bipush 8, 2) := by decide +kernel
theorem dX4_scanWord_110 : decode cX4_scanWord 110 = .ok (.if_icmp .le 13, 3) := by decide +kernel
theorem dX4_scanWord_113 : decode cX4_scanWord 113 = .ok (.aload_n 0, 1) := by decide +kernel
theorem dX4_scanWord_114 : decode cX4_scanWord 114 = .ok (.iconst 1, 1) := by decide +kernel
theorem dX4_scanWord_115 : decode cX4_scanWord 115 = .ok (.aload_n 0, 1) := by decide +kernel
theorem dX4_scanWord_116 : decode cX4_scanWord 116 = .ok (.getfield 34, 3) := by decide +kernel
theorem dX4_scanWord_119 : decode cX4_scanWord 119 = .ok (.invokevirtual 37, 3) := by decide +kernel
theorem dX4_scanWord_122 : decode cX4_scanWord 122 = .ok (.return_, 1) := by decide +kernel
theorem dX4_scanWord_123 : decode cX4_scanWord 123 = .ok (.aload_n 0, 1) := by decide +kernel
theorem dX4_scanWord_124 : decode cX4_scanWord 124 = .ok (.sipush 258, 3) := by decide +kernel
theorem dX4_scanWord_127 : decode cX4_scanWord 127 = .ok (.putfield 31, 3) := by decide +kernel
theorem dX4_scanWord_130 : decode cX4_scanWord 130 = .ok (.iconst 0, 1) := by decide +kernel
theorem dX4_scanWord_131 : decode cX4_scanWord 131 = .ok (.istore_n 1, 1) := by decide +kernel
theorem dX4_scanWord_132 : decode cX4_scanWord 132 = .ok (.iload_n 1, 1) := by decide +kernel
theorem dX4_scanWord_133 : decode cX4_scanWord 133 = .ok (.getstatic 67, 3) := by decide +kernel
theorem dX4_scanWord_136 : decode cX4_scanWord 136 = .ok (.arraylength, 1) := by decide +kernel
theorem dX4_scanWord_137 : decode cX4_scanWord 137 = .ok (.if_icmp .ge 31, 3) := by decide +kernel
theorem dX4_scanWord_140 : decode cX4_scanWord 140 = .ok (.getstatic 67, 3) := by decide +kernel
theorem dX4_scanWord_143 : decode cX4_scanWord 143 = .ok (.iload_n 1, 1) := by decide +kernel
theorem dX4_scanWord_144 : decode cX4_scanWord 144 = .ok (.laload, 1) := by decide +kernel
theorem dX4_scanWord_145 : decode cX4_scanWord 145 = .ok (.aload_n 0, 1) := by decide +kernel
theorem dX4_scanWord_146 : decode cX4_scanWord 146 = .ok (.getfield 60, 3) := by decide +kernel
theorem dX4_scanWord_149 : decode cX4_scanWord 149 = .ok (.lcmp, 1) := by decide +kernel
theorem dX4_scanWord_150 : decode cX4_scanWord 150 = .ok (.ifCond .ne 12, 3) := by decide +kernel
theorem dX4_scanWord_153 : decode cX4_scanWord 153 = .ok (.aload_n 0, 1) := by decide +kernel
theorem dX4_scanWord_154 : decode cX4_scanWord 154 = .ok (.sipush 259, 3) := by decide +kernel
theorem dX4_scanWord_157 : decode cX4_scanWord 157 = .ok (.iload_n 1, 1) := by decide +kernel
theorem dX4_scanWord_158 : decode cX4_scanWord 158 = .ok (.iadd, 1) := by decide +kernel
theorem dX4_scanWord_159 : decode cX4_scanWord 159 = .ok (.putfield 31, 3) := by decide +kernel
theorem dX4_scanWord_162 : decode cX4_scanWord 162 = .ok (.iinc 1 1, 3) := by decide +kernel
theorem dX4_scanWord_165 : decode cX4_scanWord 165 = .ok (.goto (-33), 3) := by decide +kernel
theorem dX4_scanWord_168 : decode cX4_scanWord 168 = .ok (.return_, 1) := by decide +kernel
theorem dX4_isLetter_0 : decode cX4_isLetter 0 = .ok (.iload_n 0, 1) := by decide +kernel
theorem dX4_isLetter_1 : decode cX4_isLetter 1 = .ok (.bipush 97, 2) := by decide +kernel
theorem dX4_isLetter_3 : decode cX4_isLetter 3 = .ok (.if_icmp .lt 13, 3) := by decide +kernel
theorem dX4_isLetter_6 : decode cX4_isLetter 6 = .ok (.iload_n 0, 1) := by decide +kernel
theorem dX4_isLetter_7 : decode cX4_isLetter 7 = .ok (.bipush 122, 2) := by decide +kernel
theorem dX4_isLetter_9 : decode cX4_isLetter 9 = .ok (.if_icmp .gt 7, 3) := by decide +kernel
theorem dX4_isLetter_12 : decode cX4_isLetter 12 = .ok (.iconst 1, 1) := by decide +kernel
theorem dX4_isLetter_13 : decode cX4_isLetter 13 = .ok (.goto 4, 3) := by decide +kernel
theorem dX4_isLetter_16 : decode cX4_isLetter 16 = .ok (.iconst 0, 1) := by decide +kernel
theorem dX4_isLetter_17 : decode cX4_isLetter 17 = .ok (.ireturn, 1) := by decide +kernel
theorem dX4_isDigit_0 : decode cX4_isDigit 0 = .ok (.iload_n 0, 1) := by decide +kernel
theorem dX4_isDigit_1 : decode cX4_isDigit 1 = .ok (.bipush 48, 2) := by decide +kernel
theorem dX4_isDigit_3 : decode cX4_isDigit 3 = .ok (.if_icmp .lt 13, 3) := by decide +kernel
theorem dX4_isDigit_6 : decode cX4_isDigit 6 = .ok (.iload_n 0, 1) := by decide +kernel
theorem dX4_isDigit_7 : decode cX4_isDigit 7 = .ok (.bipush 57, 2) := by decide +kernel
theorem dX4_isDigit_9 : decode cX4_isDigit 9 = .ok (.if_icmp .gt 7, 3) := by decide +kernel
theorem dX4_isDigit_12 : decode cX4_isDigit 12 = .ok (.iconst 1, 1) := by decide +kernel
theorem dX4_isDigit_13 : decode cX4_isDigit 13 = .ok (.goto 4, 3) := by decide +kernel
theorem dX4_isDigit_16 : decode cX4_isDigit 16 = .ok (.iconst 0, 1) := by decide +kernel
theorem dX4_isDigit_17 : decode cX4_isDigit 17 = .ok (.ireturn, 1) := by decide +kernel
theorem dX5_init_0 : decode cX5_init 0 = .ok (.aload_n 0, 1) := by decide +kernel
theorem dX5_init_1 : decode cX5_init 1 = .ok (.invokespecial 3, 3) := by decide +kernel
theorem dX5_init_4 : decode cX5_init 4 = .ok (.aload_n 0, 1) := by decide +kernel
theorem dX5_init_5 : decode cX5_init 5 = .ok (.sipush 768, 3) := by decide +kernel
theorem dX5_init_8 : decode cX5_init 8 = .ok (.newarray .long, 2) := by decide +kernel
theorem dX5_init_10 : decode cX5_init 10 = .ok (.putfield 9, 3) := by decide +kernel
theorem dX5_init_13 : decode cX5_init 13 = .ok (.aload_n 0, 1) := by decide +kernel
theorem dX5_init_14 : decode cX5_init 14 = .ok (.bipush 8, 2) := by decide +kernel
theorem dX5_init_16 : decode cX5_init 16 = .ok (.newarray .long, 2) := by decide +kernel
theorem dX5_init_18 : decode cX5_init 18 = .ok (.putfield 15, 3) := by decide +kernel
theorem dX5_init_21 : decode cX5_init 21 = .ok (.aload_n 0, 1) := by decide +kernel
theorem dX5_init_22 : decode cX5_init 22 = .ok (.iconst (-1), 1) := by decide +kernel
theorem dX5_init_23 : decode cX5_init 23 = .ok (.putfield 18, 3) := by decide +kernel
theorem dX5_init_26 : decode cX5_init 26 = .ok (.aload_n 0, 1) := by decide +kernel
theorem dX5_init_27 : decode cX5_init 27 = .ok (.aload_n 1, 1) := by decide +kernel
theorem dX5_init_28 : decode cX5_init 28 = .ok (.putfield 22, 3) := by decide +kernel
theorem dX5_init_31 : decode cX5_init 31 = .ok (.return_, 1) := by decide +kernel
theorem dX5_holdsWord_0 : decode cX5_holdsWord 0 = .ok (.aload_n 0, 1) := by decide +kernel
theorem dX5_holdsWord_1 : decode cX5_holdsWord 1 = .ok (.invokevirtual 26, 3) := by decide +kernel
theorem dX5_holdsWord_4 : decode cX5_holdsWord 4 = .ok (.lconst 1, 1) := by decide +kernel
theorem dX5_holdsWord_5 : decode cX5_holdsWord 5 = .ok (.iload_n 1, 1) := by decide +kernel
theorem dX5_holdsWord_6 : decode cX5_holdsWord 6 = .ok (.lshl, 1) := by decide +kernel
theorem dX5_holdsWord_7 : decode cX5_holdsWord 7 = .ok (.aload_n 0, 1) := by decide +kernel
theorem dX5_holdsWord_8 : decode cX5_holdsWord 8 = .ok (.getfield 15, 3) := by decide +kernel
theorem dX5_holdsWord_11 : decode cX5_holdsWord 11 = .ok (.iload_n 1, 1) := by decide +kernel
theorem dX5_holdsWord_12 : decode cX5_holdsWord 12 = .ok (.laload, 1) := by decide +kernel
theorem dX5_holdsWord_13 : decode cX5_holdsWord 13 = .ok (.lor, 1) := by decide +kernel
theorem dX5_holdsWord_14 : decode cX5_holdsWord 14 = .ok (.lstore_n 2, 1) := by decide +kernel
theorem dX5_holdsWord_15 : decode cX5_holdsWord 15 = .ok (.aload_n 0, 1) := by decide +kernel
theorem dX5_holdsWord_16 : decode cX5_holdsWord 16 = .ok (.getfield 22, 3) := by decide +kernel
theorem dX5_holdsWord_19 : decode cX5_holdsWord 19 = .ok (.getfield 29, 3) := by decide +kernel
theorem dX5_holdsWord_22 : decode cX5_holdsWord 22 = .ok (.iconst 1, 1) := by decide +kernel
theorem dX5_holdsWord_23 : decode cX5_holdsWord 23 = .ok (.isub, 1) := by decide +kernel
theorem dX5_holdsWord_24 : decode cX5_holdsWord 24 = .ok (.istore 4, 2) := by decide +kernel
theorem dX5_holdsWord_26 : decode cX5_holdsWord 26 = .ok (.iload 4, 2) := by decide +kernel
theorem dX5_holdsWord_28 : decode cX5_holdsWord 28 = .ok (.ifCond .lt 25, 3) := by decide +kernel
theorem dX5_holdsWord_31 : decode cX5_holdsWord 31 = .ok (.aload_n 0, 1) := by decide +kernel
theorem dX5_holdsWord_32 : decode cX5_holdsWord 32 = .ok (.lload_n 2, 1) := by decide +kernel
theorem dX5_holdsWord_33 : decode cX5_holdsWord 33 = .ok (.aload_n 0, 1) := by decide +kernel
theorem dX5_holdsWord_34 : decode cX5_holdsWord 34 = .ok (.getfield 22, 3) := by decide +kernel
theorem dX5_holdsWord_37 : decode cX5_holdsWord 37 = .ok (.getfield 34, 3) := by decide +kernel
theorem dX5_holdsWord_40 : decode cX5_holdsWord 40 = .ok (.iload 4, 2) := by decide +kernel
theorem dX5_holdsWord_42 : decode cX5_holdsWord 42 = .ok (.iaload, 1) := by decide +kernel
theorem dX5_holdsWord_43 : decode cX5_holdsWord 43 = .ok (.invokevirtual 38, 3) := by decide +kernel
theorem dX5_holdsWord_46 : decode cX5_holdsWord 46 = .ok (.lstore_n 2, 1) := by decide +kernel
theorem dX5_holdsWord_47 : decode cX5_holdsWord 47 = .ok (.iinc 4 (-1), 3) := by decide +kernel
theorem dX5_holdsWord_50 : decode cX5_holdsWord 50 = .ok (.goto (-24), 3) := by decide +kernel
theorem dX5_holdsWord_53 : decode cX5_holdsWord 53 = .ok (.lload_n 2, 1) := by decide +kernel
theorem dX5_holdsWord_54 : decode cX5_holdsWord 54 = .ok (.aload_n 0, 1) := by decide +kernel
theorem dX5_holdsWord_55 : decode cX5_holdsWord 55 = .ok (.getfield 22, 3) := by decide +kernel
theorem dX5_holdsWord_58 : decode cX5_holdsWord 58 = .ok (.getfield 42, 3) := by decide +kernel
theorem dX5_holdsWord_61 : decode cX5_holdsWord 61 = .ok (.i2l, 1) := by decide +kernel
theorem dX5_holdsWord_62 : decode cX5_holdsWord 62 = .ok (.land, 1) := by decide +kernel
theorem dX5_holdsWord_63 : decode cX5_holdsWord 63 = .ok (.lconst 0, 1) := by decide +kernel
theorem dX5_holdsWord_64 : decode cX5_holdsWord 64 = .ok (.lcmp, 1) := by decide +kernel
theorem dX5_holdsWord_65 : decode cX5_holdsWord 65 = .ok (.ifCond .eq 7, 3) := by decide +kernel
theorem dX5_holdsWord_68 : decode cX5_holdsWord 68 = .ok (.iconst 1, 1) := by decide +kernel
theorem dX5_holdsWord_69 : decode cX5_holdsWord 69 = .ok (.goto 4, 3) := by decide +kernel
theorem dX5_holdsWord_72 : decode cX5_holdsWord 72 = .ok (.iconst 0, 1) := by decide +kernel
theorem dX5_holdsWord_73 : decode cX5_holdsWord 73 = .ok (.ireturn, 1) := by decide +kernel
theorem dX5_bringUpToDate_0 : decode cX5_bringUpToDate 0 = .ok (.aload_n 0, 1) := by decide +kernel
theorem dX5_bringUpToDate_1 : decode cX5_bringUpToDate 1 = .ok (.getfield 18, 3) := by decide +kernel
theorem dX5_bringUpToDate_4 : decode cX5_bringUpToDate 4 = .ok (.aload_n 0, 1) := by decide +kernel
theorem dX5_bringUpToDate_5 : decode cX5_bringUpToDate 5 = .ok (.getfield 22, 3) := by decide +kernel
theorem dX5_bringUpToDate_8 : decode cX5_bringUpToDate 8 = .ok (.getfield 45, 3) := by decide +kernel
theorem dX5_bringUpToDate_11 : decode cX5_bringUpToDate 11 = .ok (.if_icmp .ne 4, 3) := by decide +kernel
theorem dX5_bringUpToDate_14 : decode cX5_bringUpToDate 14 = .ok (.return_, 1) := by decide +kernel
theorem dX5_bringUpToDate_15 : decode cX5_bringUpToDate 15 = .ok (.aload_n 0, 1) := by decide +kernel
theorem dX5_bringUpToDate_16 : decode cX5_bringUpToDate 16 = .ok (.aload_n 0, 1) := by decide +kernel
theorem dX5_bringUpToDate_17 : decode cX5_bringUpToDate 17 = .ok (.getfield 22, 3) := by decide +kernel
theorem dX5_bringUpToDate_20 : decode cX5_bringUpToDate 20 = .ok (.getfield 45, 3) := by decide +kernel
theorem dX5_bringUpToDate_23 : decode cX5_bringUpToDate 23 = .ok (.putfield 18, 3) := by decide +kernel
theorem dX5_bringUpToDate_26 : decode cX5_bringUpToDate 26 = .ok (.aload_n 0, 1) := by decide +kernel
theorem dX5_bringUpToDate_27 : decode cX5_bringUpToDate 27 = .ok (.getfield 9, 3) := by decide +kernel
theorem dX5_bringUpToDate_30 : decode cX5_bringUpToDate 30 = .ok (.lconst 0, 1) := by decide +kernel
theorem dX5_bringUpToDate_31 : decode cX5_bringUpToDate 31 = .ok (.invokestatic 48, 3) := by decide +kernel
theorem dX5_bringUpToDate_34 : decode cX5_bringUpToDate 34 = .ok (.aload_n 0, 1) := by decide +kernel
theorem dX5_bringUpToDate_35 : decode cX5_bringUpToDate 35 = .ok (.getfield 15, 3) := by decide +kernel
theorem dX5_bringUpToDate_38 : decode cX5_bringUpToDate 38 = .ok (.lconst 0, 1) := by decide +kernel
theorem dX5_bringUpToDate_39 : decode cX5_bringUpToDate 39 = .ok (.invokestatic 48, 3) := by decide +kernel
theorem dX5_bringUpToDate_42 : decode cX5_bringUpToDate 42 = .ok (.iconst 0, 1) := by decide +kernel
theorem dX5_bringUpToDate_43 : decode cX5_bringUpToDate 43 = .ok (.istore_n 1, 1) := by decide +kernel
theorem dX5_bringUpToDate_44 : decode cX5_bringUpToDate 44 = .ok (.iload_n 1, 1) := by decide +kernel
theorem dX5_bringUpToDate_45 : decode cX5_bringUpToDate 45 = .ok (.sipush 192, 3) := by decide +kernel
theorem dX5_bringUpToDate_48 : decode cX5_bringUpToDate 48 = .ok (.if_icmp .ge 25, 3) := by decide +kernel
theorem dX5_bringUpToDate_51 : decode cX5_bringUpToDate 51 = .ok (.aload_n 0, 1) := by decide +kernel
theorem dX5_bringUpToDate_52 : decode cX5_bringUpToDate 52 = .ok (.getfield 9, 3) := by decide +kernel
theorem dX5_bringUpToDate_55 : decode cX5_bringUpToDate 55 = .ok (.iload_n 1, 1) := by decide +kernel
theorem dX5_bringUpToDate_56 : decode cX5_bringUpToDate 56 = .ok (.aload_n 0, 1) := by decide +kernel
theorem dX5_bringUpToDate_57 : decode cX5_bringUpToDate 57 = .ok (.getfield 22, 3) := by decide +kernel
theorem dX5_bringUpToDate_60 : decode cX5_bringUpToDate 60 = .ok (.getfield 54, 3) := by decide +kernel
theorem dX5_bringUpToDate_63 : decode cX5_bringUpToDate 63 = .ok (.iload_n 1, 1) := by decide +kernel
theorem dX5_bringUpToDate_64 : decode cX5_bringUpToDate 64 = .ok (.iaload, 1) := by decide +kernel
theorem dX5_bringUpToDate_65 : decode cX5_bringUpToDate 65 = .ok (.i2l, 1) := by decide +kernel
theorem dX5_bringUpToDate_66 : decode cX5_bringUpToDate 66 = .ok (.lastore, 1) := by decide +kernel
theorem dX5_bringUpToDate_67 : decode cX5_bringUpToDate 67 = .ok (.iinc 1 1, 3) := by decide +kernel
theorem dX5_bringUpToDate_70 : decode cX5_bringUpToDate 70 = .ok (.goto (-26), 3) := by decide +kernel
theorem dX5_bringUpToDate_73 : decode cX5_bringUpToDate 73 = .ok (.iconst 1, 1) := by decide +kernel
theorem dX5_bringUpToDate_74 : decode cX5_bringUpToDate 74 = .ok (.istore_n 1, 1) := by decide +kernel
theorem dX5_bringUpToDate_75 : decode cX5_bringUpToDate 75 = .ok (.iconst 0, 1) := by decide +kernel
theorem dX5_bringUpToDate_76 : decode cX5_bringUpToDate 76 = .ok (.istore_n 2, 1) := by decide +kernel
theorem dX5_bringUpToDate_77 : decode cX5_bringUpToDate 77 = .ok (.iload_n 2, 1) := by decide +kernel
theorem dX5_bringUpToDate_78 : decode cX5_bringUpToDate 78 = .ok (.ldc 56, 2) := by decide +kernel
theorem dX5_bringUpToDate_80 : decode cX5_bringUpToDate 80 = .ok (.if_icmp .ge 42, 3) := by decide +kernel
theorem dX5_bringUpToDate_83 : decode cX5_bringUpToDate 83 = .ok (.iload_n 1, 1) := by decide +kernel
theorem dX5_bringUpToDate_84 : decode cX5_bringUpToDate 84 = .ok (.ifCond .eq 38, 3) := by decide +kernel
theorem dX5_bringUpToDate_87 : decode cX5_bringUpToDate 87 = .ok (.iconst 0, 1) := by decide +kernel
theorem dX5_bringUpToDate_88 : decode cX5_bringUpToDate 88 = .ok (.istore_n 1, 1) := by decide +kernel
theorem dX5_bringUpToDate_89 : decode cX5_bringUpToDate 89 = .ok (.iconst 0, 1) := by decide +kernel
theorem dX5_bringUpToDate_90 : decode cX5_bringUpToDate 90 = .ok (.istore_n 3, 1) := by decide +kernel
theorem dX5_bringUpToDate_91 : decode cX5_bringUpToDate 91 = .ok (.iload_n 3, 1) := by decide +kernel
theorem dX5_bringUpToDate_92 : decode cX5_bringUpToDate 92 = .ok (.aload_n 0, 1) := by decide +kernel
theorem dX5_bringUpToDate_93 : decode cX5_bringUpToDate 93 = .ok (.getfield 22, 3) := by decide +kernel
theorem dX5_bringUpToDate_96 : decode cX5_bringUpToDate 96 = .ok (.getfield 57, 3) := by decide +kernel
theorem dX5_bringUpToDate_99 : decode cX5_bringUpToDate 99 = .ok (.if_icmp .ge 17, 3) := by decide +kernel
theorem dX5_bringUpToDate_102 : decode cX5_bringUpToDate 102 = .ok (.iload_n 1, 1) := by decide +kernel
theorem dX5_bringUpToDate_103 : decode cX5_bringUpToDate 103 = .ok (.aload_n 0, 1) := by decide +kernel
theorem dX5_bringUpToDate_104 : decode cX5_bringUpToDate 104 = .ok (.iload_n 3, 1) := by decide +kernel
theorem dX5_bringUpToDate_105 : decode cX5_bringUpToDate 105 = .ok (.invokevirtual 60, 3) := by decide +kernel
theorem dX5_bringUpToDate_108 : decode cX5_bringUpToDate 108 = .ok (.ior, 1) := by decide +kernel
theorem dX5_bringUpToDate_109 : decode cX5_bringUpToDate 109 = .ok (.istore_n 1, 1) := by decide +kernel
theorem dX5_bringUpToDate_110 : decode cX5_bringUpToDate 110 = .ok (.iinc 3 1, 3) := by decide +kernel
theorem dX5_bringUpToDate_113 : decode cX5_bringUpToDate 113 = .ok (.goto (-22), 3) := by decide +kernel
theorem dX5_bringUpToDate_116 : decode cX5_bringUpToDate 116 = .ok (.iinc 2 1, 3) := by decide +kernel
theorem dX5_bringUpToDate_119 : decode cX5_bringUpToDate 119 = .ok (.goto (-42), 3) := by decide +kernel
theorem dX5_bringUpToDate_122 : decode cX5_bringUpToDate 122 = .ok (.return_, 1) := by decide +kernel
theorem dX5_useRule_0 : decode cX5_useRule 0 = .ok (.aload_n 0, 1) := by decide +kernel
theorem dX5_useRule_1 : decode cX5_useRule 1 = .ok (.getfield 22, 3) := by decide +kernel
theorem dX5_useRule_4 : decode cX5_useRule 4 = .ok (.getfield 64, 3) := by decide +kernel
theorem dX5_useRule_7 : decode cX5_useRule 7 = .ok (.iload_n 1, 1) := by decide +kernel
theorem dX5_useRule_8 : decode cX5_useRule 8 = .ok (.iaload, 1) := by decide +kernel
theorem dX5_useRule_9 : decode cX5_useRule 9 = .ok (.istore_n 2, 1) := by decide +kernel
theorem dX5_useRule_10 : decode cX5_useRule 10 = .ok (.aload_n 0, 1) := by decide +kernel
theorem dX5_useRule_11 : decode cX5_useRule 11 = .ok (.lconst 1, 1) := by decide +kernel
theorem dX5_useRule_12 : decode cX5_useRule 12 = .ok (.iload_n 2, 1) := by decide +kernel
theorem dX5_useRule_13 : decode cX5_useRule 13 = .ok (.lshl, 1) := by decide +kernel
theorem dX5_useRule_14 : decode cX5_useRule 14 = .ok (.aload_n 0, 1) := by decide +kernel
theorem dX5_useRule_15 : decode cX5_useRule 15 = .ok (.getfield 15, 3) := by decide +kernel
theorem dX5_useRule_18 : decode cX5_useRule 18 = .ok (.iload_n 2, 1) := by decide +kernel
theorem dX5_useRule_19 : decode cX5_useRule 19 = .ok (.laload, 1) := by decide +kernel
theorem dX5_useRule_20 : decode cX5_useRule 20 = .ok (.lor, 1) := by decide +kernel
theorem dX5_useRule_21 : decode cX5_useRule 21 = .ok (.aload_n 0, 1) := by decide +kernel
theorem dX5_useRule_22 : decode cX5_useRule 22 = .ok (.getfield 22, 3) := by decide +kernel
theorem dX5_useRule_25 : decode cX5_useRule 25 = .ok (.getfield 67, 3) := by decide +kernel
theorem dX5_useRule_28 : decode cX5_useRule 28 = .ok (.iload_n 1, 1) := by decide +kernel
theorem dX5_useRule_29 : decode cX5_useRule 29 = .ok (.iaload, 1) := by decide +kernel
theorem dX5_useRule_30 : decode cX5_useRule 30 = .ok (.invokevirtual 38, 3) := by decide +kernel
theorem dX5_useRule_33 : decode cX5_useRule 33 = .ok (.lstore_n 3, 1) := by decide +kernel
theorem dX5_useRule_34 : decode cX5_useRule 34 = .ok (.lload_n 3, 1) := by decide +kernel
theorem dX5_useRule_35 : decode cX5_useRule 35 = .ok (.lconst 0, 1) := by decide +kernel
theorem dX5_useRule_36 : decode cX5_useRule 36 = .ok (.lcmp, 1) := by decide +kernel
theorem dX5_useRule_37 : decode cX5_useRule 37 = .ok (.ifCond .ne 5, 3) := by decide +kernel
theorem dX5_useRule_40 : decode cX5_useRule 40 = .ok (.iconst 0, 1) := by decide +kernel
theorem dX5_useRule_41 : decode cX5_useRule 41 = .ok (.ireturn, 1) := by decide +kernel
theorem dX5_useRule_42 : decode cX5_useRule 42 = .ok (.aload_n 0, 1) := by decide +kernel
theorem dX5_useRule_43 : decode cX5_useRule 43 = .ok (.getfield 22, 3) := by decide +kernel
theorem dX5_useRule_46 : decode cX5_useRule 46 = .ok (.getfield 70, 3) := by decide +kernel
theorem dX5_useRule_49 : decode cX5_useRule 49 = .ok (.iload_n 1, 1) := by decide +kernel
theorem dX5_useRule_50 : decode cX5_useRule 50 = .ok (.iaload, 1) := by decide +kernel
theorem dX5_useRule_51 : decode cX5_useRule 51 = .ok (.istore 5, 2) := by decide +kernel
theorem dX5_useRule_53 : decode cX5_useRule 53 = .ok (.aload_n 0, 1) := by decide +kernel
theorem dX5_useRule_54 : decode cX5_useRule 54 = .ok (.getfield 22, 3) := by decide +kernel
theorem dX5_useRule_57 : decode cX5_useRule 57 = .ok (.getfield 73, 3) := by decide +kernel
theorem dX5_useRule_60 : decode cX5_useRule 60 = .ok (.iload_n 1, 1) := by decide +kernel
theorem dX5_useRule_61 : decode cX5_useRule 61 = .ok (.iaload, 1) := by decide +kernel
theorem dX5_useRule_62 : decode cX5_useRule 62 = .ok (.ifCond .ne 42, 3) := by decide +kernel
theorem dX5_useRule_65 : decode cX5_useRule 65 = .ok (.aload_n 0, 1) := by decide +kernel
theorem dX5_useRule_66 : decode cX5_useRule 66 = .ok (.getfield 15, 3) := by decide +kernel
theorem dX5_useRule_69 : decode cX5_useRule 69 = .ok (.iload 5, 2) := by decide +kernel
theorem dX5_useRule_71 : decode cX5_useRule 71 = .ok (.laload, 1) := by decide +kernel
theorem dX5_useRule_72 : decode cX5_useRule 72 = .ok (.lstore 6, 2) := by decide +kernel
theorem dX5_useRule_74 : decode cX5_useRule 74 = .ok (.aload_n 0, 1) := by decide +kernel
theorem dX5_useRule_75 : decode cX5_useRule 75 = .ok (.getfield 15, 3) := by decide +kernel
theorem dX5_useRule_78 : decode cX5_useRule 78 = .ok (.iload 5, 2) := by decide +kernel
theorem dX5_useRule_80 : decode cX5_useRule 80 = .ok (.dup2, 1) := by decide +kernel
theorem dX5_useRule_81 : decode cX5_useRule 81 = .ok (.laload, 1) := by decide +kernel
theorem dX5_useRule_82 : decode cX5_useRule 82 = .ok (.lload_n 3, 1) := by decide +kernel
theorem dX5_useRule_83 : decode cX5_useRule 83 = .ok (.lor, 1) := by decide +kernel
theorem dX5_useRule_84 : decode cX5_useRule 84 = .ok (.lastore, 1) := by decide +kernel
theorem dX5_useRule_85 : decode cX5_useRule 85 = .ok (.aload_n 0, 1) := by decide +kernel
theorem dX5_useRule_86 : decode cX5_useRule 86 = .ok (.getfield 15, 3) := by decide +kernel
theorem dX5_useRule_89 : decode cX5_useRule 89 = .ok (.iload 5, 2) := by decide +kernel
theorem dX5_useRule_91 : decode cX5_useRule 91 = .ok (.laload, 1) := by decide +kernel
theorem dX5_useRule_92 : decode cX5_useRule 92 = .ok (.lload 6, 2) := by decide +kernel
theorem dX5_useRule_94 : decode cX5_useRule 94 = .ok (.lcmp, 1) := by decide +kernel
theorem dX5_useRule_95 : decode cX5_useRule 95 = .ok (.ifCond .eq 7, 3) := by decide +kernel
theorem dX5_useRule_98 : decode cX5_useRule 98 = .ok (.iconst 1, 1) := by decide +kernel
theorem dX5_useRule_99 : decode cX5_useRule 99 = .ok (.goto 4, 3) := by decide +kernel
theorem dX5_useRule_102 : decode cX5_useRule 102 = .ok (.iconst 0, 1) := by decide +kernel
theorem dX5_useRule_103 : decode cX5_useRule 103 = .ok (.ireturn, 1) := by decide +kernel
theorem dX5_useRule_104 : decode cX5_useRule 104 = .ok (.iload 5, 2) := by decide +kernel
theorem dX5_useRule_106 : decode cX5_useRule 106 = .ok (.bipush 12, 2) := by decide +kernel
theorem dX5_useRule_108 : decode cX5_useRule 108 = .ok (.imul, 1) := by decide +kernel
theorem dX5_useRule_109 : decode cX5_useRule 109 = .ok (.aload_n 0, 1) := by decide +kernel
theorem dX5_useRule_110 : decode cX5_useRule 110 = .ok (.getfield 22, 3) := by decide +kernel
theorem dX5_useRule_113 : decode cX5_useRule 113 = .ok (.getfield 76, 3) := by decide +kernel
theorem dX5_useRule_116 : decode cX5_useRule 116 = .ok (.iload_n 1, 1) := by decide +kernel
theorem dX5_useRule_117 : decode cX5_useRule 117 = .ok (.iaload, 1) := by decide +kernel
theorem dX5_useRule_118 : decode cX5_useRule 118 = .ok (.iadd, 1) := by decide +kernel
theorem dX5_useRule_119 : decode cX5_useRule 119 = .ok (.istore 6, 2) := by decide +kernel
theorem dX5_useRule_121 : decode cX5_useRule 121 = .ok (.aload_n 0, 1) := by decide +kernel
theorem dX5_useRule_122 : decode cX5_useRule 122 = .ok (.getfield 22, 3) := by decide +kernel
theorem dX5_useRule_125 : decode cX5_useRule 125 = .ok (.getfield 73, 3) := by decide +kernel
theorem dX5_useRule_128 : decode cX5_useRule 128 = .ok (.iload_n 1, 1) := by decide +kernel
theorem dX5_useRule_129 : decode cX5_useRule 129 = .ok (.iaload, 1) := by decide +kernel
theorem dX5_useRule_130 : decode cX5_useRule 130 = .ok (.iconst 1, 1) := by decide +kernel
theorem dX5_useRule_131 : decode cX5_useRule 131 = .ok (.if_icmp .ne 11, 3) := by decide +kernel
theorem dX5_useRule_134 : decode cX5_useRule 134 = .ok (.aload_n 0, 1) := by decide +kernel
theorem dX5_useRule_135 : decode cX5_useRule 135 = .ok (.iload 6, 2) := by decide +kernel
theorem dX5_useRule_137 : decode cX5_useRule 137 = .ok (.lload_n 3, 1) := by decide +kernel
theorem dX5_useRule_138 : decode cX5_useRule 138 = .ok (.invokevirtual 79, 3) := by decide +kernel
theorem dX5_useRule_141 : decode cX5_useRule 141 = .ok (.ireturn, 1) := by decide +kernel
theorem dX5_useRule_142 : decode cX5_useRule 142 = .ok (.bipush 16, 2) := by decide +kernel
theorem dX5_useRule_144 : decode cX5_useRule 144 = .ok (.iload_n 1, 1) := by decide +kernel
theorem dX5_useRule_145 : decode cX5_useRule 145 = .ok (.iadd, 1) := by decide +kernel
theorem dX5_useRule_146 : decode cX5_useRule 146 = .ok (.istore 7, 2) := by decide +kernel
theorem dX5_useRule_148 : decode cX5_useRule 148 = .ok (.aload_n 0, 1) := by decide +kernel
theorem dX5_useRule_149 : decode cX5_useRule 149 = .ok (.iload 6, 2) := by decide +kernel
theorem dX5_useRule_151 : decode cX5_useRule 151 = .ok (.lconst 1, 1) := by decide +kernel
theorem dX5_useRule_152 : decode cX5_useRule 152 = .ok (.iload 7, 2) := by decide +kernel
theorem dX5_useRule_154 : decode cX5_useRule 154 = .ok (.lshl, 1) := by decide +kernel
theorem dX5_useRule_155 : decode cX5_useRule 155 = .ok (.invokevirtual 79, 3) := by decide +kernel
theorem dX5_useRule_158 : decode cX5_useRule 158 = .ok (.istore 8, 2) := by decide +kernel
theorem dX5_useRule_160 : decode cX5_useRule 160 = .ok (.aload_n 0, 1) := by decide +kernel
theorem dX5_useRule_161 : decode cX5_useRule 161 = .ok (.iload 7, 2) := by decide +kernel
theorem dX5_useRule_163 : decode cX5_useRule 163 = .ok (.bipush 12, 2) := by decide +kernel
theorem dX5_useRule_165 : decode cX5_useRule 165 = .ok (.imul, 1) := by decide +kernel
theorem dX5_useRule_166 : decode cX5_useRule 166 = .ok (.aload_n 0, 1) := by decide +kernel
theorem dX5_useRule_167 : decode cX5_useRule 167 = .ok (.getfield 22, 3) := by decide +kernel
theorem dX5_useRule_170 : decode cX5_useRule 170 = .ok (.getfield 83, 3) := by decide +kernel
theorem dX5_useRule_173 : decode cX5_useRule 173 = .ok (.iload_n 1, 1) := by decide +kernel
theorem dX5_useRule_174 : decode cX5_useRule 174 = .ok (.iaload, 1) := by decide +kernel
theorem dX5_useRule_175 : decode cX5_useRule 175 = .ok (.iadd, 1) := by decide +kernel
theorem dX5_useRule_176 : decode cX5_useRule 176 = .ok (.lload_n 3, 1) := by decide +kernel
theorem dX5_useRule_177 : decode cX5_useRule 177 = .ok (.invokevirtual 79, 3) := by decide +kernel
theorem dX5_useRule_180 : decode cX5_useRule 180 = .ok (.ifCond .ne 8, 3) := by decide +kernel
theorem dX5_useRule_183 : decode cX5_useRule 183 = .ok (.iload 8, 2) := by decide +kernel
theorem dX5_useRule_185 : decode cX5_useRule 185 = .ok (.ifCond .eq 7, 3) := by decide +kernel
theorem dX5_useRule_188 : decode cX5_useRule 188 = .ok (.iconst 1, 1) := by decide +kernel
theorem dX5_useRule_189 : decode cX5_useRule 189 = .ok (.goto 4, 3) := by decide +kernel
theorem dX5_useRule_192 : decode cX5_useRule 192 = .ok (.iconst 0, 1) := by decide +kernel
theorem dX5_useRule_193 : decode cX5_useRule 193 = .ok (.ireturn, 1) := by decide +kernel
theorem dX5_addArcs_0 : decode cX5_addArcs 0 = .ok (.aload_n 0, 1) := by decide +kernel
theorem dX5_addArcs_1 : decode cX5_addArcs 1 = .ok (.getfield 9, 3) := by decide +kernel
theorem dX5_addArcs_4 : decode cX5_addArcs 4 = .ok (.iload_n 1, 1) := by decide +kernel
theorem dX5_addArcs_5 : decode cX5_addArcs 5 = .ok (.laload, 1) := by decide +kernel
theorem dX5_addArcs_6 : decode cX5_addArcs 6 = .ok (.lstore 4, 2) := by decide +kernel
theorem dX5_addArcs_8 : decode cX5_addArcs 8 = .ok (.aload_n 0, 1) := by decide +kernel
theorem dX5_addArcs_9 : decode cX5_addArcs 9 = .ok (.getfield 9, 3) := by decide +kernel
theorem dX5_addArcs_12 : decode cX5_addArcs 12 = .ok (.iload_n 1, 1) := by decide +kernel
theorem dX5_addArcs_13 : decode cX5_addArcs 13 = .ok (.dup2, 1) := by decide +kernel
theorem dX5_addArcs_14 : decode cX5_addArcs 14 = .ok (.laload, 1) := by decide +kernel
theorem dX5_addArcs_15 : decode cX5_addArcs 15 = .ok (.lload_n 2, 1) := by decide +kernel
theorem dX5_addArcs_16 : decode cX5_addArcs 16 = .ok (.lor, 1) := by decide +kernel
theorem dX5_addArcs_17 : decode cX5_addArcs 17 = .ok (.lastore, 1) := by decide +kernel
theorem dX5_addArcs_18 : decode cX5_addArcs 18 = .ok (.aload_n 0, 1) := by decide +kernel
theorem dX5_addArcs_19 : decode cX5_addArcs 19 = .ok (.getfield 9, 3) := by decide +kernel
theorem dX5_addArcs_22 : decode cX5_addArcs 22 = .ok (.iload_n 1, 1) := by decide +kernel
theorem dX5_addArcs_23 : decode cX5_addArcs 23 = .ok (.laload, 1) := by decide +kernel
theorem dX5_addArcs_24 : decode cX5_addArcs 24 = .ok (.lload 4, 2) := by decide +kernel
theorem dX5_addArcs_26 : decode cX5_addArcs 26 = .ok (.lcmp, 1) := by decide +kernel
theorem dX5_addArcs_27 : decode cX5_addArcs 27 = .ok (.ifCond .eq 7, 3) := by decide +kernel
theorem dX5_addArcs_30 : decode cX5_addArcs 30 = .ok (.iconst 1, 1) := by decide +kernel
theorem dX5_addArcs_31 : decode cX5_addArcs 31 = .ok (.goto 4, 3) := by decide +kernel
theorem dX5_addArcs_34 : decode cX5_addArcs 34 = .ok (.iconst 0, 1) := by decide +kernel
theorem dX5_addArcs_35 : decode cX5_addArcs 35 = .ok (.ireturn, 1) := by decide +kernel
theorem dX5_nodesBehind_0 : decode cX5_nodesBehind 0 = .ok (.lconst 0, 1) := by decide +kernel
theorem dX5_nodesBehind_1 : decode cX5_nodesBehind 1 = .ok (.lstore 4, 2) := by decide +kernel
theorem dX5_nodesBehind_3 : decode cX5_nodesBehind 3 = .ok (.iconst 0, 1) := by decide +kernel
theorem dX5_nodesBehind_4 : decode cX5_nodesBehind 4 = .ok (.istore 6, 2) := by decide +kernel
theorem dX5_nodesBehind_6 : decode cX5_nodesBehind 6 = .ok (.iload 6, 2) := by decide +kernel
theorem dX5_nodesBehind_8 : decode cX5_nodesBehind 8 = .ok (.bipush 64, 2) := by decide +kernel
theorem dX5_nodesBehind_10 : decode cX5_nodesBehind 10 = .ok (.if_icmp .ge 37, 3) := by decide +kernel
theorem dX5_nodesBehind_13 : decode cX5_nodesBehind 13 = .ok (.lload_n 1, 1) := by decide +kernel
theorem dX5_nodesBehind_14 : decode cX5_nodesBehind 14 = .ok (.iload 6, 2) := by decide +kernel
theorem dX5_nodesBehind_16 : decode cX5_nodesBehind 16 = .ok (.lushr, 1) := by decide +kernel
theorem dX5_nodesBehind_17 : decode cX5_nodesBehind 17 = .ok (.lconst 1, 1) := by decide +kernel
theorem dX5_nodesBehind_18 : decode cX5_nodesBehind 18 = .ok (.land, 1) := by decide +kernel
theorem dX5_nodesBehind_19 : decode cX5_nodesBehind 19 = .ok (.lconst 0, 1) := by decide +kernel
theorem dX5_nodesBehind_20 : decode cX5_nodesBehind 20 = .ok (.lcmp, 1) := by decide +kernel
theorem dX5_nodesBehind_21 : decode cX5_nodesBehind 21 = .ok (.ifCond .eq 20, 3) := by decide +kernel
theorem dX5_nodesBehind_24 : decode cX5_nodesBehind 24 = .ok (.lload 4, 2) := by decide +kernel
theorem dX5_nodesBehind_26 : decode cX5_nodesBehind 26 = .ok (.aload_n 0, 1) := by decide +kernel
theorem dX5_nodesBehind_27 : decode cX5_nodesBehind 27 = .ok (.getfield 9, 3) := by decide +kernel
theorem dX5_nodesBehind_30 : decode cX5_nodesBehind 30 = .ok (.iload 6, 2) := by decide +kernel
theorem dX5_nodesBehind_32 : decode cX5_nodesBehind 32 = .ok (.bipush 12, 2) := by decide +kernel
theorem dX5_nodesBehind_34 : decode cX5_nodesBehind 34 = .ok (.imul, 1) := by decide +kernel
theorem dX5_nodesBehind_35 : decode cX5_nodesBehind 35 = .ok (.iload_n 3, 1) := by decide +kernel
theorem dX5_nodesBehind_36 : decode cX5_nodesBehind 36 = .ok (.iadd, 1) := by decide +kernel
theorem dX5_nodesBehind_37 : decode cX5_nodesBehind 37 = .ok (.laload, 1) := by decide +kernel
theorem dX5_nodesBehind_38 : decode cX5_nodesBehind 38 = .ok (.lor, 1) := by decide +kernel
theorem dX5_nodesBehind_39 : decode cX5_nodesBehind 39 = .ok (.lstore 4, 2) := by decide +kernel
theorem dX5_nodesBehind_41 : decode cX5_nodesBehind 41 = .ok (.iinc 6 1, 3) := by decide +kernel
theorem dX5_nodesBehind_44 : decode cX5_nodesBehind 44 = .ok (.goto (-38), 3) := by decide +kernel
theorem dX5_nodesBehind_47 : decode cX5_nodesBehind 47 = .ok (.lload 4, 2) := by decide +kernel
theorem dX5_nodesBehind_49 : decode cX5_nodesBehind 49 = .ok (.lreturn, 1) := by decide +kernel
