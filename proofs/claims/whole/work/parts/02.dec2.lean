theorem dX4_init_0 : decode cX4_init 0 = .ok (.aload_n 0, 1) := by decide +kernel
theorem dX4_init_1 : decode cX4_init 1 = .ok (.invokespecial 1, 3) := by decide +kernel
theorem dX4_init_4 : decode cX4_init 4 = .ok (.aload_n 0, 1) := by decide +kernel
theorem dX4_init_5 : decode cX4_init 5 = .ok (.iconst 1, 1) := by decide +kernel
theorem dX4_init_6 : decode cX4_init 6 = .ok (.putfield 7, 3) := by decide +kernel
theorem dX4_init_9 : decode cX4_init 9 = .ok (.aload_n 0, 1) := by decide +kernel
theorem dX4_init_10 : decode cX4_init 10 = .ok (.sipush 500, 3) := by decide +kernel
theorem dX4_init_13 : decode cX4_init 13 = .ok (.newarray .int, 2) := by decide +kernel
theorem dX4_init_15 : decode cX4_init 15 = .ok (.putfield 13, 3) := by decide +kernel
theorem dX4_init_18 : decode cX4_init 18 = .ok (.aload_n 0, 1) := by decide +kernel
theorem dX4_init_19 : decode cX4_init 19 = .ok (.sipush 500, 3) := by decide +kernel
theorem dX4_init_22 : decode cX4_init 22 = .ok (.newarray .int, 2) := by decide +kernel
theorem dX4_init_24 : decode cX4_init 24 = .ok (.putfield 17, 3) := by decide +kernel
theorem dX4_init_27 : decode cX4_init 27 = .ok (.aload_n 0, 1) := by decide +kernel
theorem dX4_init_28 : decode cX4_init 28 = .ok (.sipush 500, 3) := by decide +kernel
theorem dX4_init_31 : decode cX4_init 31 = .ok (.newarray .int, 2) := by decide +kernel
theorem dX4_init_33 : decode cX4_init 33 = .ok (.putfield 20, 3) := by decide +kernel
theorem dX4_init_36 : decode cX4_init 36 = .ok (.aload_n 0, 1) := by decide +kernel
theorem dX4_init_37 : decode cX4_init 37 = .ok (.ldc 23, 2) := by decide +kernel
theorem dX4_init_39 : decode cX4_init 39 = .ok (.newarray .short, 2) := by decide +kernel
theorem dX4_init_41 : decode cX4_init 41 = .ok (.putfield 24, 3) := by decide +kernel
theorem dX4_init_44 : decode cX4_init 44 = .ok (.aload_n 0, 1) := by decide +kernel
theorem dX4_init_45 : decode cX4_init 45 = .ok (.ldc 23, 2) := by decide +kernel
theorem dX4_init_47 : decode cX4_init 47 = .ok (.newarray .int, 2) := by decide +kernel
theorem dX4_init_49 : decode cX4_init 49 = .ok (.putfield 28, 3) := by decide +kernel
theorem dX4_init_52 : decode cX4_init 52 = .ok (.aload_n 0, 1) := by decide +kernel
theorem dX4_init_53 : decode cX4_init 53 = .ok (.bipush 12, 2) := by decide +kernel
theorem dX4_init_55 : decode cX4_init 55 = .ok (.newarray .int, 2) := by decide +kernel
theorem dX4_init_57 : decode cX4_init 57 = .ok (.putfield 31, 3) := by decide +kernel
theorem dX4_init_60 : decode cX4_init 60 = .ok (.aload_n 0, 1) := by decide +kernel
theorem dX4_init_61 : decode cX4_init 61 = .ok (.bipush 12, 2) := by decide +kernel
theorem dX4_init_63 : decode cX4_init 63 = .ok (.newarray .int, 2) := by decide +kernel
theorem dX4_init_65 : decode cX4_init 65 = .ok (.putfield 34, 3) := by decide +kernel
theorem dX4_init_68 : decode cX4_init 68 = .ok (.aload_n 0, 1) := by decide +kernel
theorem dX4_init_69 : decode cX4_init 69 = .ok (.bipush 12, 2) := by decide +kernel
theorem dX4_init_71 : decode cX4_init 71 = .ok (.newarray .int, 2) := by decide +kernel
theorem dX4_init_73 : decode cX4_init 73 = .ok (.putfield 37, 3) := by decide +kernel
theorem dX4_init_76 : decode cX4_init 76 = .ok (.aload_n 0, 1) := by decide +kernel
theorem dX4_init_77 : decode cX4_init 77 = .ok (.sipush 4800, 3) := by decide +kernel
theorem dX4_init_80 : decode cX4_init 80 = .ok (.newarray .int, 2) := by decide +kernel
theorem dX4_init_82 : decode cX4_init 82 = .ok (.putfield 40, 3) := by decide +kernel
theorem dX4_init_85 : decode cX4_init 85 = .ok (.aload_n 0, 1) := by decide +kernel
theorem dX4_init_86 : decode cX4_init 86 = .ok (.sipush 4800, 3) := by decide +kernel
theorem dX4_init_89 : decode cX4_init 89 = .ok (.newarray .int, 2) := by decide +kernel
theorem dX4_init_91 : decode cX4_init 91 = .ok (.putfield 43, 3) := by decide +kernel
theorem dX4_init_94 : decode cX4_init 94 = .ok (.aload_n 0, 1) := by decide +kernel
theorem dX4_init_95 : decode cX4_init 95 = .ok (.bipush 10, 2) := by decide +kernel
theorem dX4_init_97 : decode cX4_init 97 = .ok (.newarray .int, 2) := by decide +kernel
theorem dX4_init_99 : decode cX4_init 99 = .ok (.putfield 46, 3) := by decide +kernel
theorem dX4_init_102 : decode cX4_init 102 = .ok (.aload_n 0, 1) := by decide +kernel
theorem dX4_init_103 : decode cX4_init 103 = .ok (.bipush 7, 2) := by decide +kernel
theorem dX4_init_105 : decode cX4_init 105 = .ok (.newarray .int, 2) := by decide +kernel
theorem dX4_init_107 : decode cX4_init 107 = .ok (.putfield 49, 3) := by decide +kernel
theorem dX4_init_110 : decode cX4_init 110 = .ok (.aload_n 0, 1) := by decide +kernel
theorem dX4_init_111 : decode cX4_init 111 = .ok (.sipush 400, 3) := by decide +kernel
theorem dX4_init_114 : decode cX4_init 114 = .ok (.newarray .int, 2) := by decide +kernel
theorem dX4_init_116 : decode cX4_init 116 = .ok (.putfield 52, 3) := by decide +kernel
theorem dX4_init_119 : decode cX4_init 119 = .ok (.aload_n 0, 1) := by decide +kernel
theorem dX4_init_120 : decode cX4_init 120 = .ok (.sipush 400, 3) := by decide +kernel
theorem dX4_init_123 : decode cX4_init 123 = .ok (.newarray .int, 2) := by decide +kernel
theorem dX4_init_125 : decode cX4_init 125 = .ok (.putfield 55, 3) := by decide +kernel
theorem dX4_init_128 : decode cX4_init 128 = .ok (.aload_n 0, 1) := by decide +kernel
theorem dX4_init_129 : decode cX4_init 129 = .ok (.sipush 1024, 3) := by decide +kernel
theorem dX4_init_132 : decode cX4_init 132 = .ok (.newarray .int, 2) := by decide +kernel
theorem dX4_init_134 : decode cX4_init 134 = .ok (.putfield 58, 3) := by decide +kernel
theorem dX4_init_137 : decode cX4_init 137 = .ok (.aload_n 0, 1) := by decide +kernel
theorem dX4_init_138 : decode cX4_init 138 = .ok (.sipush 1024, 3) := by decide +kernel
theorem dX4_init_141 : decode cX4_init 141 = .ok (.newarray .int, 2) := by decide +kernel
theorem dX4_init_143 : decode cX4_init 143 = .ok (.putfield 61, 3) := by decide +kernel
theorem dX4_init_146 : decode cX4_init 146 = .ok (.aload_n 0, 1) := by decide +kernel
theorem dX4_init_147 : decode cX4_init 147 = .ok (.getfield 20, 3) := by decide +kernel
theorem dX4_init_150 : decode cX4_init 150 = .ok (.iconst 0, 1) := by decide +kernel
theorem dX4_init_151 : decode cX4_init 151 = .ok (.iconst (-1), 1) := by decide +kernel
theorem dX4_init_152 : decode cX4_init 152 = .ok (.iastore, 1) := by decide +kernel
theorem dX4_init_153 : decode cX4_init 153 = .ok (.aload_n 0, 1) := by decide +kernel
theorem dX4_init_154 : decode cX4_init 154 = .ok (.getfield 31, 3) := by decide +kernel
theorem dX4_init_157 : decode cX4_init 157 = .ok (.iconst 0, 1) := by decide +kernel
theorem dX4_init_158 : decode cX4_init 158 = .ok (.iconst 1, 1) := by decide +kernel
theorem dX4_init_159 : decode cX4_init 159 = .ok (.iastore, 1) := by decide +kernel
theorem dX4_init_160 : decode cX4_init 160 = .ok (.return_, 1) := by decide +kernel
theorem dX4_answer_0 : decode cX4_answer 0 = .ok (.iload_n 1, 1) := by decide +kernel
theorem dX4_answer_1 : decode cX4_answer 1 = .ok (.ifCond .ge 14, 3) := by decide +kernel
theorem dX4_answer_4 : decode cX4_answer 4 = .ok (.aload_n 0, 1) := by decide +kernel
theorem dX4_answer_5 : decode cX4_answer 5 = .ok (.getfield 49, 3) := by decide +kernel
theorem dX4_answer_8 : decode cX4_answer 8 = .ok (.iload_n 1, 1) := by decide +kernel
theorem dX4_answer_9 : decode cX4_answer 9 = .ok (.ineg, 1) := by decide +kernel
theorem dX4_answer_10 : decode cX4_answer 10 = .ok (.dup2, 1) := by decide +kernel
theorem dX4_answer_11 : decode cX4_answer 11 = .ok (.iaload, 1) := by decide +kernel
theorem dX4_answer_12 : decode cX4_answer 12 = .ok (.iconst 1, 1) := by decide +kernel
theorem dX4_answer_13 : decode cX4_answer 13 = .ok (.iadd, 1) := by decide +kernel
theorem dX4_answer_14 : decode cX4_answer 14 = .ok (.iastore, 1) := by decide +kernel
theorem dX4_answer_15 : decode cX4_answer 15 = .ok (.iload_n 1, 1) := by decide +kernel
theorem dX4_answer_16 : decode cX4_answer 16 = .ok (.ireturn, 1) := by decide +kernel
theorem dX4_isPlace_0 : decode cX4_isPlace 0 = .ok (.iload_n 0, 1) := by decide +kernel
theorem dX4_isPlace_1 : decode cX4_isPlace 1 = .ok (.ifCond .lt 13, 3) := by decide +kernel
theorem dX4_isPlace_4 : decode cX4_isPlace 4 = .ok (.iload_n 0, 1) := by decide +kernel
theorem dX4_isPlace_5 : decode cX4_isPlace 5 = .ok (.bipush 12, 2) := by decide +kernel
theorem dX4_isPlace_7 : decode cX4_isPlace 7 = .ok (.if_icmp .ge 7, 3) := by decide +kernel
theorem dX4_isPlace_10 : decode cX4_isPlace 10 = .ok (.iconst 1, 1) := by decide +kernel
theorem dX4_isPlace_11 : decode cX4_isPlace 11 = .ok (.goto 4, 3) := by decide +kernel
theorem dX4_isPlace_14 : decode cX4_isPlace 14 = .ok (.iconst 0, 1) := by decide +kernel
theorem dX4_isPlace_15 : decode cX4_isPlace 15 = .ok (.ireturn, 1) := by decide +kernel
theorem dX4_look_0 : decode cX4_look 0 = .ok (.iload_n 1, 1) := by decide +kernel
theorem dX4_look_1 : decode cX4_look 1 = .ok (.invokestatic 64, 3) := by decide +kernel
theorem dX4_look_4 : decode cX4_look 4 = .ok (.ifCond .ne 7, 3) := by decide +kernel
theorem dX4_look_7 : decode cX4_look 7 = .ok (.iconst (-1), 1) := by decide +kernel
theorem dX4_look_8 : decode cX4_look 8 = .ok (.goto 18, 3) := by decide +kernel
theorem dX4_look_11 : decode cX4_look 11 = .ok (.aload_n 0, 1) := by decide +kernel
theorem dX4_look_12 : decode cX4_look 12 = .ok (.getfield 31, 3) := by decide +kernel
theorem dX4_look_15 : decode cX4_look 15 = .ok (.iload_n 1, 1) := by decide +kernel
theorem dX4_look_16 : decode cX4_look 16 = .ok (.iaload, 1) := by decide +kernel
theorem dX4_look_17 : decode cX4_look 17 = .ok (.ifCond .ne 8, 3) := by decide +kernel
theorem dX4_look_20 : decode cX4_look 20 = .ok (.bipush (-2), 2) := by decide +kernel
theorem dX4_look_22 : decode cX4_look 22 = .ok (.goto 4, 3) := by decide +kernel
theorem dX4_look_25 : decode cX4_look 25 = .ok (.iconst 0, 1) := by decide +kernel
theorem dX4_look_26 : decode cX4_look 26 = .ok (.ireturn, 1) := by decide +kernel
theorem dX4_size_0 : decode cX4_size 0 = .ok (.aload_n 0, 1) := by decide +kernel
theorem dX4_size_1 : decode cX4_size 1 = .ok (.getfield 31, 3) := by decide +kernel
theorem dX4_size_4 : decode cX4_size 4 = .ok (.iload_n 1, 1) := by decide +kernel
theorem dX4_size_5 : decode cX4_size 5 = .ok (.iaload, 1) := by decide +kernel
theorem dX4_size_6 : decode cX4_size 6 = .ok (.iconst 1, 1) := by decide +kernel
theorem dX4_size_7 : decode cX4_size 7 = .ok (.if_icmp .ne 17, 3) := by decide +kernel
theorem dX4_size_10 : decode cX4_size 10 = .ok (.aload_n 0, 1) := by decide +kernel
theorem dX4_size_11 : decode cX4_size 11 = .ok (.getfield 17, 3) := by decide +kernel
theorem dX4_size_14 : decode cX4_size 14 = .ok (.aload_n 0, 1) := by decide +kernel
theorem dX4_size_15 : decode cX4_size 15 = .ok (.getfield 34, 3) := by decide +kernel
theorem dX4_size_18 : decode cX4_size 18 = .ok (.iload_n 1, 1) := by decide +kernel
theorem dX4_size_19 : decode cX4_size 19 = .ok (.iaload, 1) := by decide +kernel
theorem dX4_size_20 : decode cX4_size 20 = .ok (.iaload, 1) := by decide +kernel
theorem dX4_size_21 : decode cX4_size 21 = .ok (.goto 9, 3) := by decide +kernel
theorem dX4_size_24 : decode cX4_size 24 = .ok (.aload_n 0, 1) := by decide +kernel
theorem dX4_size_25 : decode cX4_size 25 = .ok (.getfield 37, 3) := by decide +kernel
theorem dX4_size_28 : decode cX4_size 28 = .ok (.iload_n 1, 1) := by decide +kernel
theorem dX4_size_29 : decode cX4_size 29 = .ok (.iaload, 1) := by decide +kernel
theorem dX4_size_30 : decode cX4_size 30 = .ok (.ireturn, 1) := by decide +kernel
theorem dX4_valueAt_0 : decode cX4_valueAt 0 = .ok (.aload_n 0, 1) := by decide +kernel
theorem dX4_valueAt_1 : decode cX4_valueAt 1 = .ok (.getfield 31, 3) := by decide +kernel
theorem dX4_valueAt_4 : decode cX4_valueAt 4 = .ok (.iload_n 1, 1) := by decide +kernel
theorem dX4_valueAt_5 : decode cX4_valueAt 5 = .ok (.iaload, 1) := by decide +kernel
theorem dX4_valueAt_6 : decode cX4_valueAt 6 = .ok (.iconst 1, 1) := by decide +kernel
theorem dX4_valueAt_7 : decode cX4_valueAt 7 = .ok (.if_icmp .ne 24, 3) := by decide +kernel
theorem dX4_valueAt_10 : decode cX4_valueAt 10 = .ok (.aload_n 0, 1) := by decide +kernel
theorem dX4_valueAt_11 : decode cX4_valueAt 11 = .ok (.getfield 24, 3) := by decide +kernel
theorem dX4_valueAt_14 : decode cX4_valueAt 14 = .ok (.aload_n 0, 1) := by decide +kernel
theorem dX4_valueAt_15 : decode cX4_valueAt 15 = .ok (.getfield 13, 3) := by decide +kernel
theorem dX4_valueAt_18 : decode cX4_valueAt 18 = .ok (.aload_n 0, 1) := by decide +kernel
theorem dX4_valueAt_19 : decode cX4_valueAt 19 = .ok (.getfield 34, 3) := by decide +kernel
theorem dX4_valueAt_22 : decode cX4_valueAt 22 = .ok (.iload_n 1, 1) := by decide +kernel
theorem dX4_valueAt_23 : decode cX4_valueAt 23 = .ok (.iaload, 1) := by decide +kernel
theorem dX4_valueAt_24 : decode cX4_valueAt 24 = .ok (.iaload, 1) := by decide +kernel
theorem dX4_valueAt_25 : decode cX4_valueAt 25 = .ok (.iload_n 2, 1) := by decide +kernel
theorem dX4_valueAt_26 : decode cX4_valueAt 26 = .ok (.iadd, 1) := by decide +kernel
theorem dX4_valueAt_27 : decode cX4_valueAt 27 = .ok (.saload, 1) := by decide +kernel
theorem dX4_valueAt_28 : decode cX4_valueAt 28 = .ok (.goto 15, 3) := by decide +kernel
theorem dX4_valueAt_31 : decode cX4_valueAt 31 = .ok (.aload_n 0, 1) := by decide +kernel
theorem dX4_valueAt_32 : decode cX4_valueAt 32 = .ok (.getfield 40, 3) := by decide +kernel
theorem dX4_valueAt_35 : decode cX4_valueAt 35 = .ok (.sipush 400, 3) := by decide +kernel
theorem dX4_valueAt_38 : decode cX4_valueAt 38 = .ok (.iload_n 1, 1) := by decide +kernel
theorem dX4_valueAt_39 : decode cX4_valueAt 39 = .ok (.imul, 1) := by decide +kernel
theorem dX4_valueAt_40 : decode cX4_valueAt 40 = .ok (.iload_n 2, 1) := by decide +kernel
theorem dX4_valueAt_41 : decode cX4_valueAt 41 = .ok (.iadd, 1) := by decide +kernel
theorem dX4_valueAt_42 : decode cX4_valueAt 42 = .ok (.iaload, 1) := by decide +kernel
theorem dX4_valueAt_43 : decode cX4_valueAt 43 = .ok (.ireturn, 1) := by decide +kernel
theorem dX4_weightAt_0 : decode cX4_weightAt 0 = .ok (.aload_n 0, 1) := by decide +kernel
theorem dX4_weightAt_1 : decode cX4_weightAt 1 = .ok (.getfield 31, 3) := by decide +kernel
theorem dX4_weightAt_4 : decode cX4_weightAt 4 = .ok (.iload_n 1, 1) := by decide +kernel
theorem dX4_weightAt_5 : decode cX4_weightAt 5 = .ok (.iaload, 1) := by decide +kernel
theorem dX4_weightAt_6 : decode cX4_weightAt 6 = .ok (.iconst 1, 1) := by decide +kernel
theorem dX4_weightAt_7 : decode cX4_weightAt 7 = .ok (.if_icmp .ne 24, 3) := by decide +kernel
theorem dX4_weightAt_10 : decode cX4_weightAt 10 = .ok (.aload_n 0, 1) := by decide +kernel
theorem dX4_weightAt_11 : decode cX4_weightAt 11 = .ok (.getfield 28, 3) := by decide +kernel
theorem dX4_weightAt_14 : decode cX4_weightAt 14 = .ok (.aload_n 0, 1) := by decide +kernel
theorem dX4_weightAt_15 : decode cX4_weightAt 15 = .ok (.getfield 13, 3) := by decide +kernel
theorem dX4_weightAt_18 : decode cX4_weightAt 18 = .ok (.aload_n 0, 1) := by decide +kernel
theorem dX4_weightAt_19 : decode cX4_weightAt 19 = .ok (.getfield 34, 3) := by decide +kernel
theorem dX4_weightAt_22 : decode cX4_weightAt 22 = .ok (.iload_n 1, 1) := by decide +kernel
theorem dX4_weightAt_23 : decode cX4_weightAt 23 = .ok (.iaload, 1) := by decide +kernel
theorem dX4_weightAt_24 : decode cX4_weightAt 24 = .ok (.iaload, 1) := by decide +kernel
theorem dX4_weightAt_25 : decode cX4_weightAt 25 = .ok (.iload_n 2, 1) := by decide +kernel
theorem dX4_weightAt_26 : decode cX4_weightAt 26 = .ok (.iadd, 1) := by decide +kernel
theorem dX4_weightAt_27 : decode cX4_weightAt 27 = .ok (.iaload, 1) := by decide +kernel
theorem dX4_weightAt_28 : decode cX4_weightAt 28 = .ok (.goto 15, 3) := by decide +kernel
theorem dX4_weightAt_31 : decode cX4_weightAt 31 = .ok (.aload_n 0, 1) := by decide +kernel
theorem dX4_weightAt_32 : decode cX4_weightAt 32 = .ok (.getfield 43, 3) := by decide +kernel
theorem dX4_weightAt_35 : decode cX4_weightAt 35 = .ok (.sipush 400, 3) := by decide +kernel
theorem dX4_weightAt_38 : decode cX4_weightAt 38 = .ok (.iload_n 1, 1) := by decide +kernel
theorem dX4_weightAt_39 : decode cX4_weightAt 39 = .ok (.imul, 1) := by decide +kernel
theorem dX4_weightAt_40 : decode cX4_weightAt 40 = .ok (.iload_n 2, 1) := by decide +kernel
theorem dX4_weightAt_41 : decode cX4_weightAt 41 = .ok (.iadd, 1) := by decide +kernel
theorem dX4_weightAt_42 : decode cX4_weightAt 42 = .ok (.iaload, 1) := by decide +kernel
theorem dX4_weightAt_43 : decode cX4_weightAt 43 = .ok (.ireturn, 1) := by decide +kernel
theorem dX4_span_0 : decode cX4_span 0 = .ok (.lload 4, 2) := by decide +kernel
theorem dX4_span_2 : decode cX4_span 2 = .ok (.lload_n 2, 1) := by decide +kernel
theorem dX4_span_3 : decode cX4_span 3 = .ok (.lcmp, 1) := by decide +kernel
theorem dX4_span_4 : decode cX4_span 4 = .ok (.ifCond .ge 8, 3) := by decide +kernel
theorem dX4_span_7 : decode cX4_span 7 = .ok (.bipush (-4), 2) := by decide +kernel
theorem dX4_span_9 : decode cX4_span 9 = .ok (.goto 26, 3) := by decide +kernel
theorem dX4_span_12 : decode cX4_span 12 = .ok (.lload_n 2, 1) := by decide +kernel
theorem dX4_span_13 : decode cX4_span 13 = .ok (.lconst 0, 1) := by decide +kernel
theorem dX4_span_14 : decode cX4_span 14 = .ok (.lcmp, 1) := by decide +kernel
theorem dX4_span_15 : decode cX4_span 15 = .ok (.ifCond .lt 15, 3) := by decide +kernel
theorem dX4_span_18 : decode cX4_span 18 = .ok (.lload 4, 2) := by decide +kernel
theorem dX4_span_20 : decode cX4_span 20 = .ok (.aload_n 0, 1) := by decide +kernel
theorem dX4_span_21 : decode cX4_span 21 = .ok (.iload_n 1, 1) := by decide +kernel
theorem dX4_span_22 : decode cX4_span 22 = .ok (.invokevirtual 68, 3) := by decide +kernel
theorem dX4_span_25 : decode cX4_span 25 = .ok (.i2l, 1) := by decide +kernel
theorem dX4_span_26 : decode cX4_span 26 = .ok (.lcmp, 1) := by decide +kernel
theorem dX4_span_27 : decode cX4_span 27 = .ok (.ifCond .le 7, 3) := by decide +kernel
theorem dX4_span_30 : decode cX4_span 30 = .ok (.iconst (-1), 1) := by decide +kernel
theorem dX4_span_31 : decode cX4_span 31 = .ok (.goto 4, 3) := by decide +kernel
theorem dX4_span_34 : decode cX4_span 34 = .ok (.iconst 0, 1) := by decide +kernel
theorem dX4_span_35 : decode cX4_span 35 = .ok (.ireturn, 1) := by decide +kernel
theorem dX4_lookSpan_0 : decode cX4_lookSpan 0 = .ok (.aload_n 0, 1) := by decide +kernel
theorem dX4_lookSpan_1 : decode cX4_lookSpan 1 = .ok (.iload_n 1, 1) := by decide +kernel
theorem dX4_lookSpan_2 : decode cX4_lookSpan 2 = .ok (.invokevirtual 72, 3) := by decide +kernel
theorem dX4_lookSpan_5 : decode cX4_lookSpan 5 = .ok (.istore 4, 2) := by decide +kernel
theorem dX4_lookSpan_7 : decode cX4_lookSpan 7 = .ok (.iload 4, 2) := by decide +kernel
theorem dX4_lookSpan_9 : decode cX4_lookSpan 9 = .ok (.ifCond .ge 8, 3) := by decide +kernel
theorem dX4_lookSpan_12 : decode cX4_lookSpan 12 = .ok (.iload 4, 2) := by decide +kernel
theorem dX4_lookSpan_14 : decode cX4_lookSpan 14 = .ok (.goto 12, 3) := by decide +kernel
theorem dX4_lookSpan_17 : decode cX4_lookSpan 17 = .ok (.aload_n 0, 1) := by decide +kernel
theorem dX4_lookSpan_18 : decode cX4_lookSpan 18 = .ok (.iload_n 1, 1) := by decide +kernel
theorem dX4_lookSpan_19 : decode cX4_lookSpan 19 = .ok (.iload_n 2, 1) := by decide +kernel
theorem dX4_lookSpan_20 : decode cX4_lookSpan 20 = .ok (.i2l, 1) := by decide +kernel
theorem dX4_lookSpan_21 : decode cX4_lookSpan 21 = .ok (.iload_n 3, 1) := by decide +kernel
theorem dX4_lookSpan_22 : decode cX4_lookSpan 22 = .ok (.i2l, 1) := by decide +kernel
theorem dX4_lookSpan_23 : decode cX4_lookSpan 23 = .ok (.invokevirtual 75, 3) := by decide +kernel
theorem dX4_lookSpan_26 : decode cX4_lookSpan 26 = .ok (.ireturn, 1) := by decide +kernel
theorem dX4_add_0 : decode cX4_add 0 = .ok (.aload_n 0, 1) := by decide +kernel
theorem dX4_add_1 : decode cX4_add 1 = .ok (.getfield 24, 3) := by decide +kernel
theorem dX4_add_4 : decode cX4_add 4 = .ok (.aload_n 0, 1) := by decide +kernel
theorem dX4_add_5 : decode cX4_add 5 = .ok (.getfield 79, 3) := by decide +kernel
theorem dX4_add_8 : decode cX4_add 8 = .ok (.iload_n 1, 1) := by decide +kernel
theorem dX4_add_9 : decode cX4_add 9 = .ok (.i2s, 1) := by decide +kernel
theorem dX4_add_10 : decode cX4_add 10 = .ok (.sastore, 1) := by decide +kernel
theorem dX4_add_11 : decode cX4_add 11 = .ok (.aload_n 0, 1) := by decide +kernel
theorem dX4_add_12 : decode cX4_add 12 = .ok (.getfield 28, 3) := by decide +kernel
theorem dX4_add_15 : decode cX4_add 15 = .ok (.aload_n 0, 1) := by decide +kernel
theorem dX4_add_16 : decode cX4_add 16 = .ok (.getfield 79, 3) := by decide +kernel
theorem dX4_add_19 : decode cX4_add 19 = .ok (.iload_n 2, 1) := by decide +kernel
theorem dX4_add_20 : decode cX4_add 20 = .ok (.iastore, 1) := by decide +kernel
theorem dX4_add_21 : decode cX4_add 21 = .ok (.aload_n 0, 1) := by decide +kernel
theorem dX4_add_22 : decode cX4_add 22 = .ok (.dup, 1) := by decide +kernel
theorem dX4_add_23 : decode cX4_add 23 = .ok (.getfield 79, 3) := by decide +kernel
theorem dX4_add_26 : decode cX4_add 26 = .ok (.iconst 1, 1) := by decide +kernel
theorem dX4_add_27 : decode cX4_add 27 = .ok (.iadd, 1) := by decide +kernel
theorem dX4_add_28 : decode cX4_add 28 = .ok (.putfield 79, 3) := by decide +kernel
theorem dX4_add_31 : decode cX4_add 31 = .ok (.return_, 1) := by decide +kernel
theorem dX4_begin_0 : decode cX4_begin 0 = .ok (.aload_n 0, 1) := by decide +kernel
theorem dX4_begin_1 : decode cX4_begin 1 = .ok (.getfield 7, 3) := by decide +kernel
theorem dX4_begin_4 : decode cX4_begin 4 = .ok (.istore_n 3, 1) := by decide +kernel
theorem dX4_begin_5 : decode cX4_begin 5 = .ok (.aload_n 0, 1) := by decide +kernel
theorem dX4_begin_6 : decode cX4_begin 6 = .ok (.dup, 1) := by decide +kernel
theorem dX4_begin_7 : decode cX4_begin 7 = .ok (.getfield 7, 3) := by decide +kernel
theorem dX4_begin_10 : decode cX4_begin 10 = .ok (.iconst 1, 1) := by decide +kernel
theorem dX4_begin_11 : decode cX4_begin 11 = .ok (.iadd, 1) := by decide +kernel
theorem dX4_begin_12 : decode cX4_begin 12 = .ok (.putfield 7, 3) := by decide +kernel
theorem dX4_begin_15 : decode cX4_begin 15 = .ok (.aload_n 0, 1) := by decide +kernel
theorem dX4_begin_16 : decode cX4_begin 16 = .ok (.getfield 20, 3) := by decide +kernel
theorem dX4_begin_19 : decode cX4_begin 19 = .ok (.iload_n 3, 1) := by decide +kernel
theorem dX4_begin_20 : decode cX4_begin 20 = .ok (.iload_n 1, 1) := by decide +kernel
theorem dX4_begin_21 : decode cX4_begin 21 = .ok (.iastore, 1) := by decide +kernel
theorem dX4_begin_22 : decode cX4_begin 22 = .ok (.aload_n 0, 1) := by decide +kernel
theorem dX4_begin_23 : decode cX4_begin 23 = .ok (.getfield 13, 3) := by decide +kernel
theorem dX4_begin_26 : decode cX4_begin 26 = .ok (.iload_n 3, 1) := by decide +kernel
theorem dX4_begin_27 : decode cX4_begin 27 = .ok (.aload_n 0, 1) := by decide +kernel
theorem dX4_begin_28 : decode cX4_begin 28 = .ok (.getfield 79, 3) := by decide +kernel
theorem dX4_begin_31 : decode cX4_begin 31 = .ok (.iastore, 1) := by decide +kernel
theorem dX4_begin_32 : decode cX4_begin 32 = .ok (.iconst 0, 1) := by decide +kernel
theorem dX4_begin_33 : decode cX4_begin 33 = .ok (.istore 4, 2) := by decide +kernel
theorem dX4_begin_35 : decode cX4_begin 35 = .ok (.iload 4, 2) := by decide +kernel
theorem dX4_begin_37 : decode cX4_begin 37 = .ok (.iload_n 2, 1) := by decide +kernel
theorem dX4_begin_38 : decode cX4_begin 38 = .ok (.if_icmp .ge 41, 3) := by decide +kernel
theorem dX4_begin_41 : decode cX4_begin 41 = .ok (.aload_n 0, 1) := by decide +kernel
theorem dX4_begin_42 : decode cX4_begin 42 = .ok (.aload_n 0, 1) := by decide +kernel
theorem dX4_begin_43 : decode cX4_begin 43 = .ok (.getfield 24, 3) := by decide +kernel
theorem dX4_begin_46 : decode cX4_begin 46 = .ok (.aload_n 0, 1) := by decide +kernel
theorem dX4_begin_47 : decode cX4_begin 47 = .ok (.getfield 13, 3) := by decide +kernel
theorem dX4_begin_50 : decode cX4_begin 50 = .ok (.iload_n 1, 1) := by decide +kernel
theorem dX4_begin_51 : decode cX4_begin 51 = .ok (.iaload, 1) := by decide +kernel
theorem dX4_begin_52 : decode cX4_begin 52 = .ok (.iload 4, 2) := by decide +kernel
theorem dX4_begin_54 : decode cX4_begin 54 = .ok (.iadd, 1) := by decide +kernel
theorem dX4_begin_55 : decode cX4_begin 55 = .ok (.saload, 1) := by decide +kernel
theorem dX4_begin_56 : decode cX4_begin 56 = .ok (.aload_n 0, 1) := by decide +kernel
theorem dX4_begin_57 : decode cX4_begin 57 = .ok (.getfield 28, 3) := by decide +kernel
theorem dX4_begin_60 : decode cX4_begin 60 = .ok (.aload_n 0, 1) := by decide +kernel
theorem dX4_begin_61 : decode cX4_begin 61 = .ok (.getfield 13, 3) := by decide +kernel
theorem dX4_begin_64 : decode cX4_begin 64 = .ok (.iload_n 1, 1) := by decide +kernel
theorem dX4_begin_65 : decode cX4_begin 65 = .ok (.iaload, 1) := by decide +kernel
theorem dX4_begin_66 : decode cX4_begin 66 = .ok (.iload 4, 2) := by decide +kernel
theorem dX4_begin_68 : decode cX4_begin 68 = .ok (.iadd, 1) := by decide +kernel
theorem dX4_begin_69 : decode cX4_begin 69 = .ok (.iaload, 1) := by decide +kernel
theorem dX4_begin_70 : decode cX4_begin 70 = .ok (.invokevirtual 82, 3) := by decide +kernel
theorem dX4_begin_73 : decode cX4_begin 73 = .ok (.iinc 4 1, 3) := by decide +kernel
theorem dX4_begin_76 : decode cX4_begin 76 = .ok (.goto (-41), 3) := by decide +kernel
theorem dX4_begin_79 : decode cX4_begin 79 = .ok (.iload_n 3, 1) := by decide +kernel
theorem dX4_begin_80 : decode cX4_begin 80 = .ok (.ireturn, 1) := by decide +kernel
theorem dX4_finish_0 : decode cX4_finish 0 = .ok (.aload_n 0, 1) := by decide +kernel
theorem dX4_finish_1 : decode cX4_finish 1 = .ok (.getfield 17, 3) := by decide +kernel
theorem dX4_finish_4 : decode cX4_finish 4 = .ok (.iload_n 1, 1) := by decide +kernel
theorem dX4_finish_5 : decode cX4_finish 5 = .ok (.aload_n 0, 1) := by decide +kernel
theorem dX4_finish_6 : decode cX4_finish 6 = .ok (.getfield 79, 3) := by decide +kernel
theorem dX4_finish_9 : decode cX4_finish 9 = .ok (.aload_n 0, 1) := by decide +kernel
theorem dX4_finish_10 : decode cX4_finish 10 = .ok (.getfield 13, 3) := by decide +kernel
theorem dX4_finish_13 : decode cX4_finish 13 = .ok (.iload_n 1, 1) := by decide +kernel
theorem dX4_finish_14 : decode cX4_finish 14 = .ok (.iaload, 1) := by decide +kernel
theorem dX4_finish_15 : decode cX4_finish 15 = .ok (.isub, 1) := by decide +kernel
theorem dX4_finish_16 : decode cX4_finish 16 = .ok (.iastore, 1) := by decide +kernel
theorem dX4_finish_17 : decode cX4_finish 17 = .ok (.aload_n 0, 1) := by decide +kernel
theorem dX4_finish_18 : decode cX4_finish 18 = .ok (.getfield 31, 3) := by decide +kernel
theorem dX4_finish_21 : decode cX4_finish 21 = .ok (.iload_n 2, 1) := by decide +kernel
theorem dX4_finish_22 : decode cX4_finish 22 = .ok (.iconst 1, 1) := by decide +kernel
theorem dX4_finish_23 : decode cX4_finish 23 = .ok (.iastore, 1) := by decide +kernel
theorem dX4_finish_24 : decode cX4_finish 24 = .ok (.aload_n 0, 1) := by decide +kernel
theorem dX4_finish_25 : decode cX4_finish 25 = .ok (.getfield 34, 3) := by decide +kernel
theorem dX4_finish_28 : decode cX4_finish 28 = .ok (.iload_n 2, 1) := by decide +kernel
theorem dX4_finish_29 : decode cX4_finish 29 = .ok (.iload_n 1, 1) := by decide +kernel
theorem dX4_finish_30 : decode cX4_finish 30 = .ok (.iastore, 1) := by decide +kernel
theorem dX4_finish_31 : decode cX4_finish 31 = .ok (.iload_n 1, 1) := by decide +kernel
theorem dX4_finish_32 : decode cX4_finish 32 = .ok (.ireturn, 1) := by decide +kernel
theorem dX4_push_0 : decode cX4_push 0 = .ok (.aload_n 0, 1) := by decide +kernel
theorem dX4_push_1 : decode cX4_push 1 = .ok (.iload_n 1, 1) := by decide +kernel
theorem dX4_push_2 : decode cX4_push 2 = .ok (.invokevirtual 72, 3) := by decide +kernel
theorem dX4_push_5 : decode cX4_push 5 = .ok (.istore 5, 2) := by decide +kernel
theorem dX4_push_7 : decode cX4_push 7 = .ok (.iload 5, 2) := by decide +kernel
theorem dX4_push_9 : decode cX4_push 9 = .ok (.ifCond .lt 13, 3) := by decide +kernel
theorem dX4_push_12 : decode cX4_push 12 = .ok (.aload_n 0, 1) := by decide +kernel
theorem dX4_push_13 : decode cX4_push 13 = .ok (.getfield 31, 3) := by decide +kernel
theorem dX4_push_16 : decode cX4_push 16 = .ok (.iload_n 1, 1) := by decide +kernel
theorem dX4_push_17 : decode cX4_push 17 = .ok (.iaload, 1) := by decide +kernel
theorem dX4_push_18 : decode cX4_push 18 = .ok (.iconst 1, 1) := by decide +kernel
theorem dX4_push_19 : decode cX4_push 19 = .ok (.if_icmp .eq 20, 3) := by decide +kernel
theorem dX4_push_22 : decode cX4_push 22 = .ok (.aload_n 0, 1) := by decide +kernel
theorem dX4_push_23 : decode cX4_push 23 = .ok (.iload 5, 2) := by decide +kernel
theorem dX4_push_25 : decode cX4_push 25 = .ok (.ifCond .ge 8, 3) := by decide +kernel
theorem dX4_push_28 : decode cX4_push 28 = .ok (.iload 5, 2) := by decide +kernel
theorem dX4_push_30 : decode cX4_push 30 = .ok (.goto 5, 3) := by decide +kernel
theorem dX4_push_33 : decode cX4_push 33 = .ok (.bipush (-3), 2) := by decide +kernel
theorem dX4_push_35 : decode cX4_push 35 = .ok (.invokevirtual 86, 3) := by decide +kernel
theorem dX4_push_38 : decode cX4_push 38 = .ok (.ireturn, 1) := by decide +kernel
theorem dX4_push_39 : decode cX4_push 39 = .ok (.iload_n 2, 1) := by decide +kernel
theorem dX4_push_40 : decode cX4_push 40 = .ok (.ifCond .lt 18, 3) := by decide +kernel
theorem dX4_push_43 : decode cX4_push 43 = .ok (.iload_n 2, 1) := by decide +kernel
theorem dX4_push_44 : decode cX4_push 44 = .ok (.sipush 1024, 3) := by decide +kernel
theorem dX4_push_47 : decode cX4_push 47 = .ok (.if_icmp .ge 11, 3) := by decide +kernel
theorem dX4_push_50 : decode cX4_push 50 = .ok (.iload 4, 2) := by decide +kernel
theorem dX4_push_52 : decode cX4_push 52 = .ok (.invokestatic 64, 3) := by decide +kernel
theorem dX4_push_55 : decode cX4_push 55 = .ok (.ifCond .ne 9, 3) := by decide +kernel
theorem dX4_push_58 : decode cX4_push 58 = .ok (.aload_n 0, 1) := by decide +kernel
theorem dX4_push_59 : decode cX4_push 59 = .ok (.iconst (-1), 1) := by decide +kernel
theorem dX4_push_60 : decode cX4_push 60 = .ok (.invokevirtual 86, 3) := by decide +kernel
theorem dX4_push_63 : decode cX4_push 63 = .ok (.ireturn, 1) := by decide +kernel
theorem dX4_push_64 : decode cX4_push 64 = .ok (.aload_n 0, 1) := by decide +kernel
theorem dX4_push_65 : decode cX4_push 65 = .ok (.iload_n 1, 1) := by decide +kernel
theorem dX4_push_66 : decode cX4_push 66 = .ok (.invokevirtual 68, 3) := by decide +kernel
theorem dX4_push_69 : decode cX4_push 69 = .ok (.sipush 400, 3) := by decide +kernel
theorem dX4_push_72 : decode cX4_push 72 = .ok (.if_icmp .eq 25, 3) := by decide +kernel
theorem dX4_push_75 : decode cX4_push 75 = .ok (.aload_n 0, 1) := by decide +kernel
theorem dX4_push_76 : decode cX4_push 76 = .ok (.getfield 7, 3) := by decide +kernel
theorem dX4_push_79 : decode cX4_push 79 = .ok (.sipush 500, 3) := by decide +kernel
theorem dX4_push_82 : decode cX4_push 82 = .ok (.if_icmp .eq 15, 3) := by decide +kernel
theorem dX4_push_85 : decode cX4_push 85 = .ok (.aload_n 0, 1) := by decide +kernel
theorem dX4_push_86 : decode cX4_push 86 = .ok (.getfield 89, 3) := by decide +kernel
theorem dX4_push_89 : decode cX4_push 89 = .ok (.iconst 1, 1) := by decide +kernel
theorem dX4_push_90 : decode cX4_push 90 = .ok (.iadd, 1) := by decide +kernel
theorem dX4_push_91 : decode cX4_push 91 = .ok (.sipush 20000, 3) := by decide +kernel
theorem dX4_push_94 : decode cX4_push 94 = .ok (.if_icmp .le 10, 3) := by decide +kernel
theorem dX4_push_97 : decode cX4_push 97 = .ok (.aload_n 0, 1) := by decide +kernel
theorem dX4_push_98 : decode cX4_push 98 = .ok (.bipush (-5), 2) := by decide +kernel
theorem dX4_push_100 : decode cX4_push 100 = .ok (.invokevirtual 86, 3) := by decide +kernel
theorem dX4_push_103 : decode cX4_push 103 = .ok (.ireturn, 1) := by decide +kernel
theorem dX4_push_104 : decode cX4_push 104 = .ok (.aload_n 0, 1) := by decide +kernel
theorem dX4_push_105 : decode cX4_push 105 = .ok (.aload_n 0, 1) := by decide +kernel
theorem dX4_push_106 : decode cX4_push 106 = .ok (.getfield 34, 3) := by decide +kernel
theorem dX4_push_109 : decode cX4_push 109 = .ok (.iload_n 1, 1) := by decide +kernel
theorem dX4_push_110 : decode cX4_push 110 = .ok (.iaload, 1) := by decide +kernel
theorem dX4_push_111 : decode cX4_push 111 = .ok (.aload_n 0, 1) := by decide +kernel
theorem dX4_push_112 : decode cX4_push 112 = .ok (.iload_n 1, 1) := by decide +kernel
theorem dX4_push_113 : decode cX4_push 113 = .ok (.invokevirtual 68, 3) := by decide +kernel
theorem dX4_push_116 : decode cX4_push 116 = .ok (.invokevirtual 92, 3) := by decide +kernel
theorem dX4_push_119 : decode cX4_push 119 = .ok (.istore 6, 2) := by decide +kernel
theorem dX4_push_121 : decode cX4_push 121 = .ok (.aload_n 0, 1) := by decide +kernel
theorem dX4_push_122 : decode cX4_push 122 = .ok (.iload_n 2, 1) := by decide +kernel
theorem dX4_push_123 : decode cX4_push 123 = .ok (.iload_n 3, 1) := by decide +kernel
theorem dX4_push_124 : decode cX4_push 124 = .ok (.invokevirtual 82, 3) := by decide +kernel
theorem dX4_push_127 : decode cX4_push 127 = .ok (.aload_n 0, 1) := by decide +kernel
theorem dX4_push_128 : decode cX4_push 128 = .ok (.dup, 1) := by decide +kernel
theorem dX4_push_129 : decode cX4_push 129 = .ok (.getfield 89, 3) := by decide +kernel
theorem dX4_push_132 : decode cX4_push 132 = .ok (.iconst 1, 1) := by decide +kernel
theorem dX4_push_133 : decode cX4_push 133 = .ok (.iadd, 1) := by decide +kernel
theorem dX4_push_134 : decode cX4_push 134 = .ok (.putfield 89, 3) := by decide +kernel
theorem dX4_push_137 : decode cX4_push 137 = .ok (.aload_n 0, 1) := by decide +kernel
theorem dX4_push_138 : decode cX4_push 138 = .ok (.iload 6, 2) := by decide +kernel
theorem dX4_push_140 : decode cX4_push 140 = .ok (.iload 4, 2) := by decide +kernel
theorem dX4_push_142 : decode cX4_push 142 = .ok (.invokevirtual 96, 3) := by decide +kernel
theorem dX4_push_145 : decode cX4_push 145 = .ok (.ireturn, 1) := by decide +kernel
theorem dX4_cut_0 : decode cX4_cut 0 = .ok (.aload_n 0, 1) := by decide +kernel
theorem dX4_cut_1 : decode cX4_cut 1 = .ok (.iload_n 1, 1) := by decide +kernel
theorem dX4_cut_2 : decode cX4_cut 2 = .ok (.invokevirtual 72, 3) := by decide +kernel
theorem dX4_cut_5 : decode cX4_cut 5 = .ok (.istore 4, 2) := by decide +kernel
theorem dX4_cut_7 : decode cX4_cut 7 = .ok (.iload 4, 2) := by decide +kernel
theorem dX4_cut_9 : decode cX4_cut 9 = .ok (.ifCond .lt 13, 3) := by decide +kernel
theorem dX4_cut_12 : decode cX4_cut 12 = .ok (.aload_n 0, 1) := by decide +kernel
theorem dX4_cut_13 : decode cX4_cut 13 = .ok (.getfield 31, 3) := by decide +kernel
theorem dX4_cut_16 : decode cX4_cut 16 = .ok (.iload_n 1, 1) := by decide +kernel
theorem dX4_cut_17 : decode cX4_cut 17 = .ok (.iaload, 1) := by decide +kernel
theorem dX4_cut_18 : decode cX4_cut 18 = .ok (.iconst 1, 1) := by decide +kernel
theorem dX4_cut_19 : decode cX4_cut 19 = .ok (.if_icmp .eq 20, 3) := by decide +kernel
theorem dX4_cut_22 : decode cX4_cut 22 = .ok (.aload_n 0, 1) := by decide +kernel
theorem dX4_cut_23 : decode cX4_cut 23 = .ok (.iload 4, 2) := by decide +kernel
theorem dX4_cut_25 : decode cX4_cut 25 = .ok (.ifCond .ge 8, 3) := by decide +kernel
theorem dX4_cut_28 : decode cX4_cut 28 = .ok (.iload 4, 2) := by decide +kernel
theorem dX4_cut_30 : decode cX4_cut 30 = .ok (.goto 5, 3) := by decide +kernel
theorem dX4_cut_33 : decode cX4_cut 33 = .ok (.bipush (-3), 2) := by decide +kernel
theorem dX4_cut_35 : decode cX4_cut 35 = .ok (.invokevirtual 86, 3) := by decide +kernel
theorem dX4_cut_38 : decode cX4_cut 38 = .ok (.ireturn, 1) := by decide +kernel
theorem dX4_cut_39 : decode cX4_cut 39 = .ok (.iload_n 2, 1) := by decide +kernel
theorem dX4_cut_40 : decode cX4_cut 40 = .ok (.ifCond .ge 10, 3) := by decide +kernel
theorem dX4_cut_43 : decode cX4_cut 43 = .ok (.aload_n 0, 1) := by decide +kernel
theorem dX4_cut_44 : decode cX4_cut 44 = .ok (.bipush (-4), 2) := by decide +kernel
theorem dX4_cut_46 : decode cX4_cut 46 = .ok (.invokevirtual 86, 3) := by decide +kernel
theorem dX4_cut_49 : decode cX4_cut 49 = .ok (.ireturn, 1) := by decide +kernel
theorem dX4_cut_50 : decode cX4_cut 50 = .ok (.iload_n 2, 1) := by decide +kernel
theorem dX4_cut_51 : decode cX4_cut 51 = .ok (.aload_n 0, 1) := by decide +kernel
theorem dX4_cut_52 : decode cX4_cut 52 = .ok (.iload_n 1, 1) := by decide +kernel
theorem dX4_cut_53 : decode cX4_cut 53 = .ok (.invokevirtual 68, 3) := by decide +kernel
theorem dX4_cut_56 : decode cX4_cut 56 = .ok (.if_icmp .gt 10, 3) := by decide +kernel
theorem dX4_cut_59 : decode cX4_cut 59 = .ok (.iload_n 3, 1) := by decide +kernel
theorem dX4_cut_60 : decode cX4_cut 60 = .ok (.invokestatic 64, 3) := by decide +kernel
theorem dX4_cut_63 : decode cX4_cut 63 = .ok (.ifCond .ne 9, 3) := by decide +kernel
theorem dX4_cut_66 : decode cX4_cut 66 = .ok (.aload_n 0, 1) := by decide +kernel
theorem dX4_cut_67 : decode cX4_cut 67 = .ok (.iconst (-1), 1) := by decide +kernel
theorem dX4_cut_68 : decode cX4_cut 68 = .ok (.invokevirtual 86, 3) := by decide +kernel
theorem dX4_cut_71 : decode cX4_cut 71 = .ok (.ireturn, 1) := by decide +kernel
theorem dX4_cut_72 : decode cX4_cut 72 = .ok (.aload_n 0, 1) := by decide +kernel
theorem dX4_cut_73 : decode cX4_cut 73 = .ok (.getfield 7, 3) := by decide +kernel
theorem dX4_cut_76 : decode cX4_cut 76 = .ok (.sipush 500, 3) := by decide +kernel
theorem dX4_cut_79 : decode cX4_cut 79 = .ok (.if_icmp .ne 10, 3) := by decide +kernel
theorem dX4_cut_82 : decode cX4_cut 82 = .ok (.aload_n 0, 1) := by decide +kernel
theorem dX4_cut_83 : decode cX4_cut 83 = .ok (.bipush (-5), 2) := by decide +kernel
theorem dX4_cut_85 : decode cX4_cut 85 = .ok (.invokevirtual 86, 3) := by decide +kernel
theorem dX4_cut_88 : decode cX4_cut 88 = .ok (.ireturn, 1) := by decide +kernel
theorem dX4_cut_89 : decode cX4_cut 89 = .ok (.aload_n 0, 1) := by decide +kernel
theorem dX4_cut_90 : decode cX4_cut 90 = .ok (.aload_n 0, 1) := by decide +kernel
theorem dX4_cut_91 : decode cX4_cut 91 = .ok (.aload_n 0, 1) := by decide +kernel
theorem dX4_cut_92 : decode cX4_cut 92 = .ok (.getfield 34, 3) := by decide +kernel
theorem dX4_cut_95 : decode cX4_cut 95 = .ok (.iload_n 1, 1) := by decide +kernel
theorem dX4_cut_96 : decode cX4_cut 96 = .ok (.iaload, 1) := by decide +kernel
theorem dX4_cut_97 : decode cX4_cut 97 = .ok (.iload_n 2, 1) := by decide +kernel
theorem dX4_cut_98 : decode cX4_cut 98 = .ok (.invokevirtual 92, 3) := by decide +kernel
theorem dX4_cut_101 : decode cX4_cut 101 = .ok (.iload_n 3, 1) := by decide +kernel
theorem dX4_cut_102 : decode cX4_cut 102 = .ok (.invokevirtual 96, 3) := by decide +kernel
theorem dX4_cut_105 : decode cX4_cut 105 = .ok (.ireturn, 1) := by decide +kernel
theorem dX4_join_0 : decode cX4_join 0 = .ok (.aload_n 0, 1) := by decide +kernel
theorem dX4_join_1 : decode cX4_join 1 = .ok (.iload_n 1, 1) := by decide +kernel
theorem dX4_join_2 : decode cX4_join 2 = .ok (.invokevirtual 72, 3) := by decide +kernel
theorem dX4_join_5 : decode cX4_join 5 = .ok (.istore 6, 2) := by decide +kernel
theorem dX4_join_7 : decode cX4_join 7 = .ok (.iload 6, 2) := by decide +kernel
theorem dX4_join_9 : decode cX4_join 9 = .ok (.ifCond .lt 13, 3) := by decide +kernel
theorem dX4_join_12 : decode cX4_join 12 = .ok (.aload_n 0, 1) := by decide +kernel
theorem dX4_join_13 : decode cX4_join 13 = .ok (.getfield 31, 3) := by decide +kernel
theorem dX4_join_16 : decode cX4_join 16 = .ok (.iload_n 1, 1) := by decide +kernel
theorem dX4_join_17 : decode cX4_join 17 = .ok (.iaload, 1) := by decide +kernel
theorem dX4_join_18 : decode cX4_join 18 = .ok (.iconst 1, 1) := by decide +kernel
theorem dX4_join_19 : decode cX4_join 19 = .ok (.if_icmp .eq 20, 3) := by decide +kernel
theorem dX4_join_22 : decode cX4_join 22 = .ok (.aload_n 0, 1) := by decide +kernel
theorem dX4_join_23 : decode cX4_join 23 = .ok (.iload 6, 2) := by decide +kernel
theorem dX4_join_25 : decode cX4_join 25 = .ok (.ifCond .ge 8, 3) := by decide +kernel
theorem dX4_join_28 : decode cX4_join 28 = .ok (.iload 6, 2) := by decide +kernel
theorem dX4_join_30 : decode cX4_join 30 = .ok (.goto 5, 3) := by decide +kernel
theorem dX4_join_33 : decode cX4_join 33 = .ok (.bipush (-3), 2) := by decide +kernel
theorem dX4_join_35 : decode cX4_join 35 = .ok (.invokevirtual 86, 3) := by decide +kernel
theorem dX4_join_38 : decode cX4_join 38 = .ok (.ireturn, 1) := by decide +kernel
theorem dX4_join_39 : decode cX4_join 39 = .ok (.aload_n 0, 1) := by decide +kernel
theorem dX4_join_40 : decode cX4_join 40 = .ok (.iload_n 2, 1) := by decide +kernel
theorem dX4_join_41 : decode cX4_join 41 = .ok (.iload_n 3, 1) := by decide +kernel
theorem dX4_join_42 : decode cX4_join 42 = .ok (.iload 4, 2) := by decide +kernel
theorem dX4_join_44 : decode cX4_join 44 = .ok (.invokevirtual 99, 3) := by decide +kernel
theorem dX4_join_47 : decode cX4_join 47 = .ok (.istore 6, 2) := by decide +kernel
theorem dX4_join_49 : decode cX4_join 49 = .ok (.iload 6, 2) := by decide +kernel
theorem dX4_join_51 : decode cX4_join 51 = .ok (.ifCond .lt 11, 3) := by decide +kernel
theorem dX4_join_54 : decode cX4_join 54 = .ok (.iload 5, 2) := by decide +kernel
theorem dX4_join_56 : decode cX4_join 56 = .ok (.invokestatic 64, 3) := by decide +kernel
theorem dX4_join_59 : decode cX4_join 59 = .ok (.ifCond .ne 19, 3) := by decide +kernel
theorem dX4_join_62 : decode cX4_join 62 = .ok (.aload_n 0, 1) := by decide +kernel
theorem dX4_join_63 : decode cX4_join 63 = .ok (.iload 6, 2) := by decide +kernel
theorem dX4_join_65 : decode cX4_join 65 = .ok (.ifCond .ge 8, 3) := by decide +kernel
theorem dX4_join_68 : decode cX4_join 68 = .ok (.iload 6, 2) := by decide +kernel
theorem dX4_join_70 : decode cX4_join 70 = .ok (.goto 4, 3) := by decide +kernel
theorem dX4_join_73 : decode cX4_join 73 = .ok (.iconst (-1), 1) := by decide +kernel
theorem dX4_join_74 : decode cX4_join 74 = .ok (.invokevirtual 86, 3) := by decide +kernel
theorem dX4_join_77 : decode cX4_join 77 = .ok (.ireturn, 1) := by decide +kernel
theorem dX4_join_78 : decode cX4_join 78 = .ok (.iload 4, 2) := by decide +kernel
theorem dX4_join_80 : decode cX4_join 80 = .ok (.iload_n 3, 1) := by decide +kernel
theorem dX4_join_81 : decode cX4_join 81 = .ok (.isub, 1) := by decide +kernel
theorem dX4_join_82 : decode cX4_join 82 = .ok (.istore 7, 2) := by decide +kernel
theorem dX4_join_84 : decode cX4_join 84 = .ok (.aload_n 0, 1) := by decide +kernel
theorem dX4_join_85 : decode cX4_join 85 = .ok (.iload_n 1, 1) := by decide +kernel
theorem dX4_join_86 : decode cX4_join 86 = .ok (.invokevirtual 68, 3) := by decide +kernel
theorem dX4_join_89 : decode cX4_join 89 = .ok (.iload 7, 2) := by decide +kernel
theorem dX4_join_91 : decode cX4_join 91 = .ok (.iadd, 1) := by decide +kernel
theorem dX4_join_92 : decode cX4_join 92 = .ok (.sipush 400, 3) := by decide +kernel
theorem dX4_join_95 : decode cX4_join 95 = .ok (.if_icmp .gt 26, 3) := by decide +kernel
theorem dX4_join_98 : decode cX4_join 98 = .ok (.aload_n 0, 1) := by decide +kernel
theorem dX4_join_99 : decode cX4_join 99 = .ok (.getfield 7, 3) := by decide +kernel
theorem dX4_join_102 : decode cX4_join 102 = .ok (.sipush 500, 3) := by decide +kernel
theorem dX4_join_105 : decode cX4_join 105 = .ok (.if_icmp .eq 16, 3) := by decide +kernel
theorem dX4_join_108 : decode cX4_join 108 = .ok (.aload_n 0, 1) := by decide +kernel
theorem dX4_join_109 : decode cX4_join 109 = .ok (.getfield 89, 3) := by decide +kernel
theorem dX4_join_112 : decode cX4_join 112 = .ok (.iload 7, 2) := by decide +kernel
theorem dX4_join_114 : decode cX4_join 114 = .ok (.iadd, 1) := by decide +kernel
theorem dX4_join_115 : decode cX4_join 115 = .ok (.sipush 20000, 3) := by decide +kernel
theorem dX4_join_118 : decode cX4_join 118 = .ok (.if_icmp .le 10, 3) := by decide +kernel
theorem dX4_join_121 : decode cX4_join 121 = .ok (.aload_n 0, 1) := by decide +kernel
theorem dX4_join_122 : decode cX4_join 122 = .ok (.bipush (-5), 2) := by decide +kernel
theorem dX4_join_124 : decode cX4_join 124 = .ok (.invokevirtual 86, 3) := by decide +kernel
theorem dX4_join_127 : decode cX4_join 127 = .ok (.ireturn, 1) := by decide +kernel
theorem dX4_join_128 : decode cX4_join 128 = .ok (.aload_n 0, 1) := by decide +kernel
theorem dX4_join_129 : decode cX4_join 129 = .ok (.aload_n 0, 1) := by decide +kernel
theorem dX4_join_130 : decode cX4_join 130 = .ok (.getfield 34, 3) := by decide +kernel
theorem dX4_join_133 : decode cX4_join 133 = .ok (.iload_n 1, 1) := by decide +kernel
theorem dX4_join_134 : decode cX4_join 134 = .ok (.iaload, 1) := by decide +kernel
theorem dX4_join_135 : decode cX4_join 135 = .ok (.aload_n 0, 1) := by decide +kernel
theorem dX4_join_136 : decode cX4_join 136 = .ok (.iload_n 1, 1) := by decide +kernel
theorem dX4_join_137 : decode cX4_join 137 = .ok (.invokevirtual 68, 3) := by decide +kernel
theorem dX4_join_140 : decode cX4_join 140 = .ok (.invokevirtual 92, 3) := by decide +kernel
theorem dX4_join_143 : decode cX4_join 143 = .ok (.istore 8, 2) := by decide +kernel
theorem dX4_join_145 : decode cX4_join 145 = .ok (.iload_n 3, 1) := by decide +kernel
theorem dX4_join_146 : decode cX4_join 146 = .ok (.istore 9, 2) := by decide +kernel
theorem dX4_join_148 : decode cX4_join 148 = .ok (.iload 9, 2) := by decide +kernel
theorem dX4_join_150 : decode cX4_join 150 = .ok (.iload 4, 2) := by decide +kernel
theorem dX4_join_152 : decode cX4_join 152 = .ok (.if_icmp .ge 27, 3) := by decide +kernel
theorem dX4_join_155 : decode cX4_join 155 = .ok (.aload_n 0, 1) := by decide +kernel
theorem dX4_join_156 : decode cX4_join 156 = .ok (.aload_n 0, 1) := by decide +kernel
theorem dX4_join_157 : decode cX4_join 157 = .ok (.iload_n 2, 1) := by decide +kernel
theorem dX4_join_158 : decode cX4_join 158 = .ok (.iload 9, 2) := by decide +kernel
theorem dX4_join_160 : decode cX4_join 160 = .ok (.invokevirtual 103, 3) := by decide +kernel
theorem dX4_join_163 : decode cX4_join 163 = .ok (.aload_n 0, 1) := by decide +kernel
theorem dX4_join_164 : decode cX4_join 164 = .ok (.iload_n 2, 1) := by decide +kernel
theorem dX4_join_165 : decode cX4_join 165 = .ok (.iload 9, 2) := by decide +kernel
theorem dX4_join_167 : decode cX4_join 167 = .ok (.invokevirtual 106, 3) := by decide +kernel
theorem dX4_join_170 : decode cX4_join 170 = .ok (.invokevirtual 82, 3) := by decide +kernel
theorem dX4_join_173 : decode cX4_join 173 = .ok (.iinc 9 1, 3) := by decide +kernel
theorem dX4_join_176 : decode cX4_join 176 = .ok (.goto (-28), 3) := by decide +kernel
theorem dX4_join_179 : decode cX4_join 179 = .ok (.aload_n 0, 1) := by decide +kernel
theorem dX4_join_180 : decode cX4_join 180 = .ok (.dup, 1) := by decide +kernel
theorem dX4_join_181 : decode cX4_join 181 = .ok (.getfield 89, 3) := by decide +kernel
theorem dX4_join_184 : decode cX4_join 184 = .ok (.iload 7, 2) := by decide +kernel
theorem dX4_join_186 : decode cX4_join 186 = .ok (.iadd, 1) := by decide +kernel
theorem dX4_join_187 : decode cX4_join 187 = .ok (.putfield 89, 3) := by decide +kernel
theorem dX4_join_190 : decode cX4_join 190 = .ok (.aload_n 0, 1) := by decide +kernel
theorem dX4_join_191 : decode cX4_join 191 = .ok (.iload 8, 2) := by decide +kernel
theorem dX4_join_193 : decode cX4_join 193 = .ok (.iload 5, 2) := by decide +kernel
theorem dX4_join_195 : decode cX4_join 195 = .ok (.invokevirtual 96, 3) := by decide +kernel
theorem dX4_join_198 : decode cX4_join 198 = .ok (.ireturn, 1) := by decide +kernel
theorem dX4_turn_0 : decode cX4_turn 0 = .ok (.aload_n 0, 1) := by decide +kernel
theorem dX4_turn_1 : decode cX4_turn 1 = .ok (.iload_n 1, 1) := by decide +kernel
theorem dX4_turn_2 : decode cX4_turn 2 = .ok (.invokevirtual 72, 3) := by decide +kernel
theorem dX4_turn_5 : decode cX4_turn 5 = .ok (.istore 5, 2) := by decide +kernel
theorem dX4_turn_7 : decode cX4_turn 7 = .ok (.iload 5, 2) := by decide +kernel
theorem dX4_turn_9 : decode cX4_turn 9 = .ok (.ifCond .lt 13, 3) := by decide +kernel
theorem dX4_turn_12 : decode cX4_turn 12 = .ok (.aload_n 0, 1) := by decide +kernel
theorem dX4_turn_13 : decode cX4_turn 13 = .ok (.getfield 31, 3) := by decide +kernel
theorem dX4_turn_16 : decode cX4_turn 16 = .ok (.iload_n 1, 1) := by decide +kernel
theorem dX4_turn_17 : decode cX4_turn 17 = .ok (.iaload, 1) := by decide +kernel
theorem dX4_turn_18 : decode cX4_turn 18 = .ok (.iconst 1, 1) := by decide +kernel
theorem dX4_turn_19 : decode cX4_turn 19 = .ok (.if_icmp .eq 20, 3) := by decide +kernel
theorem dX4_turn_22 : decode cX4_turn 22 = .ok (.aload_n 0, 1) := by decide +kernel
theorem dX4_turn_23 : decode cX4_turn 23 = .ok (.iload 5, 2) := by decide +kernel
theorem dX4_turn_25 : decode cX4_turn 25 = .ok (.ifCond .ge 8, 3) := by decide +kernel
theorem dX4_turn_28 : decode cX4_turn 28 = .ok (.iload 5, 2) := by decide +kernel
theorem dX4_turn_30 : decode cX4_turn 30 = .ok (.goto 5, 3) := by decide +kernel
theorem dX4_turn_33 : decode cX4_turn 33 = .ok (.bipush (-3), 2) := by decide +kernel
theorem dX4_turn_35 : decode cX4_turn 35 = .ok (.invokevirtual 86, 3) := by decide +kernel
theorem dX4_turn_38 : decode cX4_turn 38 = .ok (.ireturn, 1) := by decide +kernel
theorem dX4_turn_39 : decode cX4_turn 39 = .ok (.aload_n 0, 1) := by decide +kernel
theorem dX4_turn_40 : decode cX4_turn 40 = .ok (.iload_n 1, 1) := by decide +kernel
theorem dX4_turn_41 : decode cX4_turn 41 = .ok (.invokevirtual 68, 3) := by decide +kernel
theorem dX4_turn_44 : decode cX4_turn 44 = .ok (.istore 6, 2) := by decide +kernel
theorem dX4_turn_46 : decode cX4_turn 46 = .ok (.iload_n 2, 1) := by decide +kernel
theorem dX4_turn_47 : decode cX4_turn 47 = .ok (.ifCond .lt 20, 3) := by decide +kernel
theorem dX4_turn_50 : decode cX4_turn 50 = .ok (.iload_n 2, 1) := by decide +kernel
theorem dX4_turn_51 : decode cX4_turn 51 = .ok (.iload 6, 2) := by decide +kernel
theorem dX4_turn_53 : decode cX4_turn 53 = .ok (.if_icmp .ge 14, 3) := by decide +kernel
theorem dX4_turn_56 : decode cX4_turn 56 = .ok (.iload_n 3, 1) := by decide +kernel
theorem dX4_turn_57 : decode cX4_turn 57 = .ok (.ifCond .lt 10, 3) := by decide +kernel
theorem dX4_turn_60 : decode cX4_turn 60 = .ok (.iload_n 3, 1) := by decide +kernel
theorem dX4_turn_61 : decode cX4_turn 61 = .ok (.sipush 1024, 3) := by decide +kernel
theorem dX4_turn_64 : decode cX4_turn 64 = .ok (.if_icmp .lt 9, 3) := by decide +kernel
theorem dX4_turn_67 : decode cX4_turn 67 = .ok (.aload_n 0, 1) := by decide +kernel
theorem dX4_turn_68 : decode cX4_turn 68 = .ok (.iconst (-1), 1) := by decide +kernel
theorem dX4_turn_69 : decode cX4_turn 69 = .ok (.invokevirtual 86, 3) := by decide +kernel
theorem dX4_turn_72 : decode cX4_turn 72 = .ok (.ireturn, 1) := by decide +kernel
theorem dX4_turn_73 : decode cX4_turn 73 = .ok (.aload_n 0, 1) := by decide +kernel
theorem dX4_turn_74 : decode cX4_turn 74 = .ok (.getfield 7, 3) := by decide +kernel
theorem dX4_turn_77 : decode cX4_turn 77 = .ok (.sipush 500, 3) := by decide +kernel
theorem dX4_turn_80 : decode cX4_turn 80 = .ok (.if_icmp .eq 18, 3) := by decide +kernel
theorem dX4_turn_83 : decode cX4_turn 83 = .ok (.aload_n 0, 1) := by decide +kernel
theorem dX4_turn_84 : decode cX4_turn 84 = .ok (.getfield 89, 3) := by decide +kernel
theorem dX4_turn_87 : decode cX4_turn 87 = .ok (.iload 6, 2) := by decide +kernel
theorem dX4_turn_89 : decode cX4_turn 89 = .ok (.iadd, 1) := by decide +kernel
theorem dX4_turn_90 : decode cX4_turn 90 = .ok (.iload_n 2, 1) := by decide +kernel
theorem dX4_turn_91 : decode cX4_turn 91 = .ok (.isub, 1) := by decide +kernel
theorem dX4_turn_92 : decode cX4_turn 92 = .ok (.sipush 20000, 3) := by decide +kernel
theorem dX4_turn_95 : decode cX4_turn 95 = .ok (.if_icmp .le 10, 3) := by decide +kernel
theorem dX4_turn_98 : decode cX4_turn 98 = .ok (.aload_n 0, 1) := by decide +kernel
theorem dX4_turn_99 : decode cX4_turn 99 = .ok (.bipush (-5), 2) := by decide +kernel
theorem dX4_turn_101 : decode cX4_turn 101 = .ok (.invokevirtual 86, 3) := by decide +kernel
theorem dX4_turn_104 : decode cX4_turn 104 = .ok (.ireturn, 1) := by decide +kernel
theorem dX4_turn_105 : decode cX4_turn 105 = .ok (.aload_n 0, 1) := by decide +kernel
theorem dX4_turn_106 : decode cX4_turn 106 = .ok (.aload_n 0, 1) := by decide +kernel
theorem dX4_turn_107 : decode cX4_turn 107 = .ok (.getfield 34, 3) := by decide +kernel
theorem dX4_turn_110 : decode cX4_turn 110 = .ok (.iload_n 1, 1) := by decide +kernel
theorem dX4_turn_111 : decode cX4_turn 111 = .ok (.iaload, 1) := by decide +kernel
theorem dX4_turn_112 : decode cX4_turn 112 = .ok (.iload 6, 2) := by decide +kernel
theorem dX4_turn_114 : decode cX4_turn 114 = .ok (.invokevirtual 92, 3) := by decide +kernel
theorem dX4_turn_117 : decode cX4_turn 117 = .ok (.istore 7, 2) := by decide +kernel
theorem dX4_turn_119 : decode cX4_turn 119 = .ok (.aload_n 0, 1) := by decide +kernel
theorem dX4_turn_120 : decode cX4_turn 120 = .ok (.getfield 24, 3) := by decide +kernel
theorem dX4_turn_123 : decode cX4_turn 123 = .ok (.aload_n 0, 1) := by decide +kernel
theorem dX4_turn_124 : decode cX4_turn 124 = .ok (.getfield 13, 3) := by decide +kernel
theorem dX4_turn_127 : decode cX4_turn 127 = .ok (.iload 7, 2) := by decide +kernel
theorem dX4_turn_129 : decode cX4_turn 129 = .ok (.iaload, 1) := by decide +kernel
theorem dX4_turn_130 : decode cX4_turn 130 = .ok (.iload_n 2, 1) := by decide +kernel
theorem dX4_turn_131 : decode cX4_turn 131 = .ok (.iadd, 1) := by decide +kernel
theorem dX4_turn_132 : decode cX4_turn 132 = .ok (.iload_n 3, 1) := by decide +kernel
theorem dX4_turn_133 : decode cX4_turn 133 = .ok (.i2s, 1) := by decide +kernel
theorem dX4_turn_134 : decode cX4_turn 134 = .ok (.sastore, 1) := by decide +kernel
theorem dX4_turn_135 : decode cX4_turn 135 = .ok (.aload_n 0, 1) := by decide +kernel
theorem dX4_turn_136 : decode cX4_turn 136 = .ok (.getfield 28, 3) := by decide +kernel
theorem dX4_turn_139 : decode cX4_turn 139 = .ok (.aload_n 0, 1) := by decide +kernel
theorem dX4_turn_140 : decode cX4_turn 140 = .ok (.getfield 13, 3) := by decide +kernel
theorem dX4_turn_143 : decode cX4_turn 143 = .ok (.iload 7, 2) := by decide +kernel
theorem dX4_turn_145 : decode cX4_turn 145 = .ok (.iaload, 1) := by decide +kernel
theorem dX4_turn_146 : decode cX4_turn 146 = .ok (.iload_n 2, 1) := by decide +kernel
theorem dX4_turn_147 : decode cX4_turn 147 = .ok (.iadd, 1) := by decide +kernel
theorem dX4_turn_148 : decode cX4_turn 148 = .ok (.iload 4, 2) := by decide +kernel
theorem dX4_turn_150 : decode cX4_turn 150 = .ok (.iastore, 1) := by decide +kernel
theorem dX4_turn_151 : decode cX4_turn 151 = .ok (.aload_n 0, 1) := by decide +kernel
theorem dX4_turn_152 : decode cX4_turn 152 = .ok (.dup, 1) := by decide +kernel
theorem dX4_turn_153 : decode cX4_turn 153 = .ok (.getfield 89, 3) := by decide +kernel
theorem dX4_turn_156 : decode cX4_turn 156 = .ok (.iload 6, 2) := by decide +kernel
theorem dX4_turn_158 : decode cX4_turn 158 = .ok (.iload_n 2, 1) := by decide +kernel
theorem dX4_turn_159 : decode cX4_turn 159 = .ok (.isub, 1) := by decide +kernel
theorem dX4_turn_160 : decode cX4_turn 160 = .ok (.iadd, 1) := by decide +kernel
theorem dX4_turn_161 : decode cX4_turn 161 = .ok (.putfield 89, 3) := by decide +kernel
theorem dX4_turn_164 : decode cX4_turn 164 = .ok (.aload_n 0, 1) := by decide +kernel
theorem dX4_turn_165 : decode cX4_turn 165 = .ok (.iload 7, 2) := by decide +kernel
theorem dX4_turn_167 : decode cX4_turn 167 = .ok (.iload_n 1, 1) := by decide +kernel
theorem dX4_turn_168 : decode cX4_turn 168 = .ok (.invokevirtual 96, 3) := by decide +kernel
theorem dX4_turn_171 : decode cX4_turn 171 = .ok (.ireturn, 1) := by decide +kernel
theorem dX4_isVersion_0 : decode cX4_isVersion 0 = .ok (.iload_n 1, 1) := by decide +kernel
theorem dX4_isVersion_1 : decode cX4_isVersion 1 = .ok (.ifCond .lt 15, 3) := by decide +kernel
theorem dX4_isVersion_4 : decode cX4_isVersion 4 = .ok (.iload_n 1, 1) := by decide +kernel
theorem dX4_isVersion_5 : decode cX4_isVersion 5 = .ok (.aload_n 0, 1) := by decide +kernel
theorem dX4_isVersion_6 : decode cX4_isVersion 6 = .ok (.getfield 7, 3) := by decide +kernel
theorem dX4_isVersion_9 : decode cX4_isVersion 9 = .ok (.if_icmp .ge 7, 3) := by decide +kernel
theorem dX4_isVersion_12 : decode cX4_isVersion 12 = .ok (.iconst 1, 1) := by decide +kernel
theorem dX4_isVersion_13 : decode cX4_isVersion 13 = .ok (.goto 4, 3) := by decide +kernel
theorem dX4_isVersion_16 : decode cX4_isVersion 16 = .ok (.iconst 0, 1) := by decide +kernel
theorem dX4_isVersion_17 : decode cX4_isVersion 17 = .ok (.ireturn, 1) := by decide +kernel
theorem dX4_version_0 : decode cX4_version 0 = .ok (.aload_n 0, 1) := by decide +kernel
theorem dX4_version_1 : decode cX4_version 1 = .ok (.iload_n 1, 1) := by decide +kernel
theorem dX4_version_2 : decode cX4_version 2 = .ok (.invokevirtual 109, 3) := by decide +kernel
theorem dX4_version_5 : decode cX4_version 5 = .ok (.ifCond .eq 10, 3) := by decide +kernel
theorem dX4_version_8 : decode cX4_version 8 = .ok (.iload_n 2, 1) := by decide +kernel
theorem dX4_version_9 : decode cX4_version 9 = .ok (.invokestatic 64, 3) := by decide +kernel
theorem dX4_version_12 : decode cX4_version 12 = .ok (.ifCond .ne 9, 3) := by decide +kernel
theorem dX4_version_15 : decode cX4_version 15 = .ok (.aload_n 0, 1) := by decide +kernel
theorem dX4_version_16 : decode cX4_version 16 = .ok (.iconst (-1), 1) := by decide +kernel
theorem dX4_version_17 : decode cX4_version 17 = .ok (.invokevirtual 86, 3) := by decide +kernel
theorem dX4_version_20 : decode cX4_version 20 = .ok (.ireturn, 1) := by decide +kernel
theorem dX4_version_21 : decode cX4_version 21 = .ok (.aload_n 0, 1) := by decide +kernel
theorem dX4_version_22 : decode cX4_version 22 = .ok (.getfield 31, 3) := by decide +kernel
theorem dX4_version_25 : decode cX4_version 25 = .ok (.iload_n 2, 1) := by decide +kernel
theorem dX4_version_26 : decode cX4_version 26 = .ok (.iconst 1, 1) := by decide +kernel
theorem dX4_version_27 : decode cX4_version 27 = .ok (.iastore, 1) := by decide +kernel
theorem dX4_version_28 : decode cX4_version 28 = .ok (.aload_n 0, 1) := by decide +kernel
theorem dX4_version_29 : decode cX4_version 29 = .ok (.getfield 34, 3) := by decide +kernel
theorem dX4_version_32 : decode cX4_version 32 = .ok (.iload_n 2, 1) := by decide +kernel
theorem dX4_version_33 : decode cX4_version 33 = .ok (.iload_n 1, 1) := by decide +kernel
theorem dX4_version_34 : decode cX4_version 34 = .ok (.iastore, 1) := by decide +kernel
theorem dX4_version_35 : decode cX4_version 35 = .ok (.aload_n 0, 1) := by decide +kernel
theorem dX4_version_36 : decode cX4_version 36 = .ok (.getfield 17, 3) := by decide +kernel
theorem dX4_version_39 : decode cX4_version 39 = .ok (.iload_n 1, 1) := by decide +kernel
theorem dX4_version_40 : decode cX4_version 40 = .ok (.iaload, 1) := by decide +kernel
theorem dX4_version_41 : decode cX4_version 41 = .ok (.ireturn, 1) := by decide +kernel
theorem dX4_about_0 : decode cX4_about 0 = .ok (.aload_n 0, 1) := by decide +kernel
theorem dX4_about_1 : decode cX4_about 1 = .ok (.iload_n 1, 1) := by decide +kernel
theorem dX4_about_2 : decode cX4_about 2 = .ok (.invokevirtual 109, 3) := by decide +kernel
theorem dX4_about_5 : decode cX4_about 5 = .ok (.ifCond .eq 12, 3) := by decide +kernel
theorem dX4_about_8 : decode cX4_about 8 = .ok (.iload_n 2, 1) := by decide +kernel
theorem dX4_about_9 : decode cX4_about 9 = .ok (.ifCond .lt 8, 3) := by decide +kernel
theorem dX4_about_12 : decode cX4_about 12 = .ok (.iload_n 2, 1) := by decide +kernel
theorem dX4_about_13 : decode cX4_about 13 = .ok (.iconst 4, 1) := by decide +kernel
theorem dX4_about_14 : decode cX4_about 14 = .ok (.if_icmp .le 9, 3) := by decide +kernel
theorem dX4_about_17 : decode cX4_about 17 = .ok (.aload_n 0, 1) := by decide +kernel
theorem dX4_about_18 : decode cX4_about 18 = .ok (.iconst (-1), 1) := by decide +kernel
theorem dX4_about_19 : decode cX4_about 19 = .ok (.invokevirtual 86, 3) := by decide +kernel
theorem dX4_about_22 : decode cX4_about 22 = .ok (.ireturn, 1) := by decide +kernel
theorem dX4_about_23 : decode cX4_about 23 = .ok (.iconst 0, 1) := by decide +kernel
theorem dX4_about_24 : decode cX4_about 24 = .ok (.istore_n 3, 1) := by decide +kernel
theorem dX4_about_25 : decode cX4_about 25 = .ok (.iload_n 2, 1) := by decide +kernel
theorem dX4_about_26 : decode cX4_about 26 = .ok (.tableswitch 135 0 3 #[30, 37, 57, 96], 30) := by decide +kernel
theorem dX4_about_56 : decode cX4_about 56 = .ok (.aload_n 0, 1) := by decide +kernel
theorem dX4_about_57 : decode cX4_about 57 = .ok (.getfield 17, 3) := by decide +kernel
theorem dX4_about_60 : decode cX4_about 60 = .ok (.iload_n 1, 1) := by decide +kernel
theorem dX4_about_61 : decode cX4_about 61 = .ok (.iaload, 1) := by decide +kernel
theorem dX4_about_62 : decode cX4_about 62 = .ok (.ireturn, 1) := by decide +kernel
theorem dX4_about_63 : decode cX4_about 63 = .ok (.iload_n 1, 1) := by decide +kernel
theorem dX4_about_64 : decode cX4_about 64 = .ok (.ifCond .ne 12, 3) := by decide +kernel
theorem dX4_about_67 : decode cX4_about 67 = .ok (.aload_n 0, 1) := by decide +kernel
theorem dX4_about_68 : decode cX4_about 68 = .ok (.bipush (-6), 2) := by decide +kernel
theorem dX4_about_70 : decode cX4_about 70 = .ok (.invokevirtual 86, 3) := by decide +kernel
theorem dX4_about_73 : decode cX4_about 73 = .ok (.goto 9, 3) := by decide +kernel
theorem dX4_about_76 : decode cX4_about 76 = .ok (.aload_n 0, 1) := by decide +kernel
theorem dX4_about_77 : decode cX4_about 77 = .ok (.getfield 20, 3) := by decide +kernel
theorem dX4_about_80 : decode cX4_about 80 = .ok (.iload_n 1, 1) := by decide +kernel
theorem dX4_about_81 : decode cX4_about 81 = .ok (.iaload, 1) := by decide +kernel
theorem dX4_about_82 : decode cX4_about 82 = .ok (.ireturn, 1) := by decide +kernel
theorem dX4_about_83 : decode cX4_about 83 = .ok (.iconst 1, 1) := by decide +kernel
theorem dX4_about_84 : decode cX4_about 84 = .ok (.istore 4, 2) := by decide +kernel
theorem dX4_about_86 : decode cX4_about 86 = .ok (.iload 4, 2) := by decide +kernel
theorem dX4_about_88 : decode cX4_about 88 = .ok (.aload_n 0, 1) := by decide +kernel
theorem dX4_about_89 : decode cX4_about 89 = .ok (.getfield 7, 3) := by decide +kernel
theorem dX4_about_92 : decode cX4_about 92 = .ok (.if_icmp .ge 28, 3) := by decide +kernel
theorem dX4_about_95 : decode cX4_about 95 = .ok (.iload_n 3, 1) := by decide +kernel
theorem dX4_about_96 : decode cX4_about 96 = .ok (.aload_n 0, 1) := by decide +kernel
theorem dX4_about_97 : decode cX4_about 97 = .ok (.getfield 20, 3) := by decide +kernel
theorem dX4_about_100 : decode cX4_about 100 = .ok (.iload 4, 2) := by decide +kernel
theorem dX4_about_102 : decode cX4_about 102 = .ok (.iaload, 1) := by decide +kernel
theorem dX4_about_103 : decode cX4_about 103 = .ok (.iload_n 1, 1) := by decide +kernel
theorem dX4_about_104 : decode cX4_about 104 = .ok (.if_icmp .ne 7, 3) := by decide +kernel
theorem dX4_about_107 : decode cX4_about 107 = .ok (.iconst 1, 1) := by decide +kernel
theorem dX4_about_108 : decode cX4_about 108 = .ok (.goto 4, 3) := by decide +kernel
theorem dX4_about_111 : decode cX4_about 111 = .ok (.iconst 0, 1) := by decide +kernel
theorem dX4_about_112 : decode cX4_about 112 = .ok (.iadd, 1) := by decide +kernel
theorem dX4_about_113 : decode cX4_about 113 = .ok (.istore_n 3, 1) := by decide +kernel
theorem dX4_about_114 : decode cX4_about 114 = .ok (.iinc 4 1, 3) := by decide +kernel
theorem dX4_about_117 : decode cX4_about 117 = .ok (.goto (-31), 3) := by decide +kernel
theorem dX4_about_120 : decode cX4_about 120 = .ok (.iload_n 3, 1) := by decide +kernel
theorem dX4_about_121 : decode cX4_about 121 = .ok (.ireturn, 1) := by decide +kernel
theorem dX4_about_122 : decode cX4_about 122 = .ok (.iconst 1, 1) := by decide +kernel
theorem dX4_about_123 : decode cX4_about 123 = .ok (.istore 4, 2) := by decide +kernel
theorem dX4_about_125 : decode cX4_about 125 = .ok (.iload 4, 2) := by decide +kernel
theorem dX4_about_127 : decode cX4_about 127 = .ok (.iload_n 1, 1) := by decide +kernel
theorem dX4_about_128 : decode cX4_about 128 = .ok (.if_icmp .ge 31, 3) := by decide +kernel
theorem dX4_about_131 : decode cX4_about 131 = .ok (.aload_n 0, 1) := by decide +kernel
theorem dX4_about_132 : decode cX4_about 132 = .ok (.getfield 20, 3) := by decide +kernel
theorem dX4_about_135 : decode cX4_about 135 = .ok (.iload 4, 2) := by decide +kernel
theorem dX4_about_137 : decode cX4_about 137 = .ok (.iaload, 1) := by decide +kernel
theorem dX4_about_138 : decode cX4_about 138 = .ok (.aload_n 0, 1) := by decide +kernel
theorem dX4_about_139 : decode cX4_about 139 = .ok (.getfield 20, 3) := by decide +kernel
theorem dX4_about_142 : decode cX4_about 142 = .ok (.iload_n 1, 1) := by decide +kernel
theorem dX4_about_143 : decode cX4_about 143 = .ok (.iaload, 1) := by decide +kernel
theorem dX4_about_144 : decode cX4_about 144 = .ok (.if_icmp .ne 7, 3) := by decide +kernel
theorem dX4_about_147 : decode cX4_about 147 = .ok (.iconst 1, 1) := by decide +kernel
theorem dX4_about_148 : decode cX4_about 148 = .ok (.goto 4, 3) := by decide +kernel
theorem dX4_about_151 : decode cX4_about 151 = .ok (.iload_n 3, 1) := by decide +kernel
theorem dX4_about_152 : decode cX4_about 152 = .ok (.istore_n 3, 1) := by decide +kernel
theorem dX4_about_153 : decode cX4_about 153 = .ok (.iinc 4 1, 3) := by decide +kernel
theorem dX4_about_156 : decode cX4_about 156 = .ok (.goto (-31), 3) := by decide +kernel
theorem dX4_about_159 : decode cX4_about 159 = .ok (.iload_n 3, 1) := by decide +kernel
theorem dX4_about_160 : decode cX4_about 160 = .ok (.ireturn, 1) := by decide +kernel
theorem dX4_about_161 : decode cX4_about 161 = .ok (.iload_n 1, 1) := by decide +kernel
theorem dX4_about_162 : decode cX4_about 162 = .ok (.istore 4, 2) := by decide +kernel
theorem dX4_about_164 : decode cX4_about 164 = .ok (.iload 4, 2) := by decide +kernel
theorem dX4_about_166 : decode cX4_about 166 = .ok (.ifCond .lt 18, 3) := by decide +kernel
theorem dX4_about_169 : decode cX4_about 169 = .ok (.iinc 3 1, 3) := by decide +kernel
theorem dX4_about_172 : decode cX4_about 172 = .ok (.aload_n 0, 1) := by decide +kernel
theorem dX4_about_173 : decode cX4_about 173 = .ok (.getfield 20, 3) := by decide +kernel
theorem dX4_about_176 : decode cX4_about 176 = .ok (.iload 4, 2) := by decide +kernel
theorem dX4_about_178 : decode cX4_about 178 = .ok (.iaload, 1) := by decide +kernel
theorem dX4_about_179 : decode cX4_about 179 = .ok (.istore 4, 2) := by decide +kernel
theorem dX4_about_181 : decode cX4_about 181 = .ok (.goto (-17), 3) := by decide +kernel
theorem dX4_about_184 : decode cX4_about 184 = .ok (.iload_n 3, 1) := by decide +kernel
theorem dX4_about_185 : decode cX4_about 185 = .ok (.ireturn, 1) := by decide +kernel
theorem dX4_isAncestor_0 : decode cX4_isAncestor 0 = .ok (.iload_n 2, 1) := by decide +kernel
theorem dX4_isAncestor_1 : decode cX4_isAncestor 1 = .ok (.istore_n 3, 1) := by decide +kernel
theorem dX4_isAncestor_2 : decode cX4_isAncestor 2 = .ok (.iload_n 3, 1) := by decide +kernel
theorem dX4_isAncestor_3 : decode cX4_isAncestor 3 = .ok (.ifCond .lt 18, 3) := by decide +kernel
theorem dX4_isAncestor_6 : decode cX4_isAncestor 6 = .ok (.iload_n 3, 1) := by decide +kernel
theorem dX4_isAncestor_7 : decode cX4_isAncestor 7 = .ok (.iload_n 1, 1) := by decide +kernel
theorem dX4_isAncestor_8 : decode cX4_isAncestor 8 = .ok (.if_icmp .eq 13, 3) := by decide +kernel
theorem dX4_isAncestor_11 : decode cX4_isAncestor 11 = .ok (.aload_n 0, 1) := by decide +kernel
theorem dX4_isAncestor_12 : decode cX4_isAncestor 12 = .ok (.getfield 20, 3) := by decide +kernel
theorem dX4_isAncestor_15 : decode cX4_isAncestor 15 = .ok (.iload_n 3, 1) := by decide +kernel
theorem dX4_isAncestor_16 : decode cX4_isAncestor 16 = .ok (.iaload, 1) := by decide +kernel
theorem dX4_isAncestor_17 : decode cX4_isAncestor 17 = .ok (.istore_n 3, 1) := by decide +kernel
theorem dX4_isAncestor_18 : decode cX4_isAncestor 18 = .ok (.goto (-16), 3) := by decide +kernel
theorem dX4_isAncestor_21 : decode cX4_isAncestor 21 = .ok (.iload_n 3, 1) := by decide +kernel
theorem dX4_isAncestor_22 : decode cX4_isAncestor 22 = .ok (.iload_n 1, 1) := by decide +kernel
theorem dX4_isAncestor_23 : decode cX4_isAncestor 23 = .ok (.if_icmp .ne 7, 3) := by decide +kernel
theorem dX4_isAncestor_26 : decode cX4_isAncestor 26 = .ok (.iconst 1, 1) := by decide +kernel
theorem dX4_isAncestor_27 : decode cX4_isAncestor 27 = .ok (.goto 4, 3) := by decide +kernel
theorem dX4_isAncestor_30 : decode cX4_isAncestor 30 = .ok (.iconst 0, 1) := by decide +kernel
theorem dX4_isAncestor_31 : decode cX4_isAncestor 31 = .ok (.ireturn, 1) := by decide +kernel
theorem dX4_common_0 : decode cX4_common 0 = .ok (.aload_n 0, 1) := by decide +kernel
theorem dX4_common_1 : decode cX4_common 1 = .ok (.iload_n 1, 1) := by decide +kernel
theorem dX4_common_2 : decode cX4_common 2 = .ok (.invokevirtual 109, 3) := by decide +kernel
theorem dX4_common_5 : decode cX4_common 5 = .ok (.ifCond .eq 11, 3) := by decide +kernel
theorem dX4_common_8 : decode cX4_common 8 = .ok (.aload_n 0, 1) := by decide +kernel
theorem dX4_common_9 : decode cX4_common 9 = .ok (.iload_n 2, 1) := by decide +kernel
theorem dX4_common_10 : decode cX4_common 10 = .ok (.invokevirtual 109, 3) := by decide +kernel
theorem dX4_common_13 : decode cX4_common 13 = .ok (.ifCond .ne 9, 3) := by decide +kernel
theorem dX4_common_16 : decode cX4_common 16 = .ok (.aload_n 0, 1) := by decide +kernel
theorem dX4_common_17 : decode cX4_common 17 = .ok (.iconst (-1), 1) := by decide +kernel
theorem dX4_common_18 : decode cX4_common 18 = .ok (.invokevirtual 86, 3) := by decide +kernel
theorem dX4_common_21 : decode cX4_common 21 = .ok (.ireturn, 1) := by decide +kernel
theorem dX4_common_22 : decode cX4_common 22 = .ok (.iconst 0, 1) := by decide +kernel
theorem dX4_common_23 : decode cX4_common 23 = .ok (.istore_n 3, 1) := by decide +kernel
theorem dX4_common_24 : decode cX4_common 24 = .ok (.iconst 0, 1) := by decide +kernel
theorem dX4_common_25 : decode cX4_common 25 = .ok (.istore 4, 2) := by decide +kernel
theorem dX4_common_27 : decode cX4_common 27 = .ok (.iload 4, 2) := by decide +kernel
theorem dX4_common_29 : decode cX4_common 29 = .ok (.aload_n 0, 1) := by decide +kernel
theorem dX4_common_30 : decode cX4_common 30 = .ok (.getfield 7, 3) := by decide +kernel
theorem dX4_common_33 : decode cX4_common 33 = .ok (.if_icmp .ge 36, 3) := by decide +kernel
theorem dX4_common_36 : decode cX4_common 36 = .ok (.aload_n 0, 1) := by decide +kernel
theorem dX4_common_37 : decode cX4_common 37 = .ok (.iload 4, 2) := by decide +kernel
theorem dX4_common_39 : decode cX4_common 39 = .ok (.iload_n 1, 1) := by decide +kernel
theorem dX4_common_40 : decode cX4_common 40 = .ok (.invokevirtual 112, 3) := by decide +kernel
theorem dX4_common_43 : decode cX4_common 43 = .ok (.ifCond .eq 18, 3) := by decide +kernel
theorem dX4_common_46 : decode cX4_common 46 = .ok (.aload_n 0, 1) := by decide +kernel
theorem dX4_common_47 : decode cX4_common 47 = .ok (.iload 4, 2) := by decide +kernel
theorem dX4_common_49 : decode cX4_common 49 = .ok (.iload_n 2, 1) := by decide +kernel
theorem dX4_common_50 : decode cX4_common 50 = .ok (.invokevirtual 112, 3) := by decide +kernel
theorem dX4_common_53 : decode cX4_common 53 = .ok (.ifCond .eq 8, 3) := by decide +kernel
theorem dX4_common_56 : decode cX4_common 56 = .ok (.iload 4, 2) := by decide +kernel
theorem dX4_common_58 : decode cX4_common 58 = .ok (.goto 4, 3) := by decide +kernel
theorem dX4_common_61 : decode cX4_common 61 = .ok (.iload_n 3, 1) := by decide +kernel
theorem dX4_common_62 : decode cX4_common 62 = .ok (.istore_n 3, 1) := by decide +kernel
theorem dX4_common_63 : decode cX4_common 63 = .ok (.iinc 4 1, 3) := by decide +kernel
theorem dX4_common_66 : decode cX4_common 66 = .ok (.goto (-39), 3) := by decide +kernel
theorem dX4_common_69 : decode cX4_common 69 = .ok (.iload_n 3, 1) := by decide +kernel
theorem dX4_common_70 : decode cX4_common 70 = .ok (.ireturn, 1) := by decide +kernel
theorem dX4_versions_0 : decode cX4_versions 0 = .ok (.iload_n 1, 1) := by decide +kernel
theorem dX4_versions_1 : decode cX4_versions 1 = .ok (.ifCond .eq 10, 3) := by decide +kernel
theorem dX4_versions_4 : decode cX4_versions 4 = .ok (.aload_n 0, 1) := by decide +kernel
theorem dX4_versions_5 : decode cX4_versions 5 = .ok (.getfield 89, 3) := by decide +kernel
theorem dX4_versions_8 : decode cX4_versions 8 = .ok (.goto 7, 3) := by decide +kernel
theorem dX4_versions_11 : decode cX4_versions 11 = .ok (.aload_n 0, 1) := by decide +kernel
theorem dX4_versions_12 : decode cX4_versions 12 = .ok (.getfield 7, 3) := by decide +kernel
theorem dX4_versions_15 : decode cX4_versions 15 = .ok (.ireturn, 1) := by decide +kernel
theorem dX4_seal_0 : decode cX4_seal 0 = .ok (.aload_n 0, 1) := by decide +kernel
theorem dX4_seal_1 : decode cX4_seal 1 = .ok (.iload_n 1, 1) := by decide +kernel
theorem dX4_seal_2 : decode cX4_seal 2 = .ok (.invokevirtual 72, 3) := by decide +kernel
theorem dX4_seal_5 : decode cX4_seal 5 = .ok (.istore 4, 2) := by decide +kernel
theorem dX4_seal_7 : decode cX4_seal 7 = .ok (.iload 4, 2) := by decide +kernel
theorem dX4_seal_9 : decode cX4_seal 9 = .ok (.ifCond .ge 10, 3) := by decide +kernel
theorem dX4_seal_12 : decode cX4_seal 12 = .ok (.aload_n 0, 1) := by decide +kernel
theorem dX4_seal_13 : decode cX4_seal 13 = .ok (.iload 4, 2) := by decide +kernel
theorem dX4_seal_15 : decode cX4_seal 15 = .ok (.invokevirtual 86, 3) := by decide +kernel
theorem dX4_seal_18 : decode cX4_seal 18 = .ok (.ireturn, 1) := by decide +kernel
theorem dX4_seal_19 : decode cX4_seal 19 = .ok (.iload_n 2, 1) := by decide +kernel
theorem dX4_seal_20 : decode cX4_seal 20 = .ok (.invokestatic 64, 3) := by decide +kernel
theorem dX4_seal_23 : decode cX4_seal 23 = .ok (.istore 5, 2) := by decide +kernel
theorem dX4_seal_25 : decode cX4_seal 25 = .ok (.iconst 0, 1) := by decide +kernel
theorem dX4_seal_26 : decode cX4_seal 26 = .ok (.istore 6, 2) := by decide +kernel
theorem dX4_seal_28 : decode cX4_seal 28 = .ok (.iload 6, 2) := by decide +kernel
theorem dX4_seal_30 : decode cX4_seal 30 = .ok (.aload_n 0, 1) := by decide +kernel
theorem dX4_seal_31 : decode cX4_seal 31 = .ok (.iload_n 1, 1) := by decide +kernel
theorem dX4_seal_32 : decode cX4_seal 32 = .ok (.invokevirtual 68, 3) := by decide +kernel
theorem dX4_seal_35 : decode cX4_seal 35 = .ok (.if_icmp .ge 38, 3) := by decide +kernel
theorem dX4_seal_38 : decode cX4_seal 38 = .ok (.iload_n 3, 1) := by decide +kernel
theorem dX4_seal_39 : decode cX4_seal 39 = .ok (.ifCond .eq 34, 3) := by decide +kernel
theorem dX4_seal_42 : decode cX4_seal 42 = .ok (.iload 5, 2) := by decide +kernel
theorem dX4_seal_44 : decode cX4_seal 44 = .ok (.ifCond .eq 20, 3) := by decide +kernel
theorem dX4_seal_47 : decode cX4_seal 47 = .ok (.aload_n 0, 1) := by decide +kernel
theorem dX4_seal_48 : decode cX4_seal 48 = .ok (.iload_n 1, 1) := by decide +kernel
theorem dX4_seal_49 : decode cX4_seal 49 = .ok (.iload 6, 2) := by decide +kernel
theorem dX4_seal_51 : decode cX4_seal 51 = .ok (.invokevirtual 103, 3) := by decide +kernel
theorem dX4_seal_54 : decode cX4_seal 54 = .ok (.sipush 256, 3) := by decide +kernel
theorem dX4_seal_57 : decode cX4_seal 57 = .ok (.if_icmp .ge 7, 3) := by decide +kernel
theorem dX4_seal_60 : decode cX4_seal 60 = .ok (.iconst 1, 1) := by decide +kernel
theorem dX4_seal_61 : decode cX4_seal 61 = .ok (.goto 4, 3) := by decide +kernel
theorem dX4_seal_64 : decode cX4_seal 64 = .ok (.iconst 0, 1) := by decide +kernel
theorem dX4_seal_65 : decode cX4_seal 65 = .ok (.istore 5, 2) := by decide +kernel
theorem dX4_seal_67 : decode cX4_seal 67 = .ok (.iinc 6 1, 3) := by decide +kernel
theorem dX4_seal_70 : decode cX4_seal 70 = .ok (.goto (-42), 3) := by decide +kernel
theorem dX4_seal_73 : decode cX4_seal 73 = .ok (.iload 5, 2) := by decide +kernel
theorem dX4_seal_75 : decode cX4_seal 75 = .ok (.ifCond .ne 9, 3) := by decide +kernel
theorem dX4_seal_78 : decode cX4_seal 78 = .ok (.aload_n 0, 1) := by decide +kernel
theorem dX4_seal_79 : decode cX4_seal 79 = .ok (.iconst (-1), 1) := by decide +kernel
theorem dX4_seal_80 : decode cX4_seal 80 = .ok (.invokevirtual 86, 3) := by decide +kernel
theorem dX4_seal_83 : decode cX4_seal 83 = .ok (.ireturn, 1) := by decide +kernel
theorem dX4_seal_84 : decode cX4_seal 84 = .ok (.aload_n 0, 1) := by decide +kernel
theorem dX4_seal_85 : decode cX4_seal 85 = .ok (.iload_n 1, 1) := by decide +kernel
theorem dX4_seal_86 : decode cX4_seal 86 = .ok (.iload_n 2, 1) := by decide +kernel
theorem dX4_seal_87 : decode cX4_seal 87 = .ok (.iload_n 3, 1) := by decide +kernel
theorem dX4_seal_88 : decode cX4_seal 88 = .ok (.ifCond .eq 7, 3) := by decide +kernel
theorem dX4_seal_91 : decode cX4_seal 91 = .ok (.iconst 3, 1) := by decide +kernel
theorem dX4_seal_92 : decode cX4_seal 92 = .ok (.goto 4, 3) := by decide +kernel
theorem dX4_seal_95 : decode cX4_seal 95 = .ok (.iconst 2, 1) := by decide +kernel
theorem dX4_seal_96 : decode cX4_seal 96 = .ok (.invokevirtual 116, 3) := by decide +kernel
theorem dX4_seal_99 : decode cX4_seal 99 = .ok (.ireturn, 1) := by decide +kernel
theorem dX4_store_0 : decode cX4_store 0 = .ok (.aload_n 0, 1) := by decide +kernel
theorem dX4_store_1 : decode cX4_store 1 = .ok (.iload_n 1, 1) := by decide +kernel
theorem dX4_store_2 : decode cX4_store 2 = .ok (.invokevirtual 68, 3) := by decide +kernel
theorem dX4_store_5 : decode cX4_store 5 = .ok (.istore 4, 2) := by decide +kernel
theorem dX4_store_7 : decode cX4_store 7 = .ok (.iconst 0, 1) := by decide +kernel
theorem dX4_store_8 : decode cX4_store 8 = .ok (.istore 5, 2) := by decide +kernel
theorem dX4_store_10 : decode cX4_store 10 = .ok (.iload 5, 2) := by decide +kernel
theorem dX4_store_12 : decode cX4_store 12 = .ok (.iload 4, 2) := by decide +kernel
theorem dX4_store_14 : decode cX4_store 14 = .ok (.if_icmp .ge 57, 3) := by decide +kernel
theorem dX4_store_17 : decode cX4_store 17 = .ok (.aload_n 0, 1) := by decide +kernel
theorem dX4_store_18 : decode cX4_store 18 = .ok (.iload_n 1, 1) := by decide +kernel
theorem dX4_store_19 : decode cX4_store 19 = .ok (.iload 5, 2) := by decide +kernel
theorem dX4_store_21 : decode cX4_store 21 = .ok (.invokevirtual 103, 3) := by decide +kernel
theorem dX4_store_24 : decode cX4_store 24 = .ok (.istore 6, 2) := by decide +kernel
theorem dX4_store_26 : decode cX4_store 26 = .ok (.aload_n 0, 1) := by decide +kernel
theorem dX4_store_27 : decode cX4_store 27 = .ok (.iload_n 1, 1) := by decide +kernel
theorem dX4_store_28 : decode cX4_store 28 = .ok (.iload 5, 2) := by decide +kernel
theorem dX4_store_30 : decode cX4_store 30 = .ok (.invokevirtual 106, 3) := by decide +kernel
theorem dX4_store_33 : decode cX4_store 33 = .ok (.istore 7, 2) := by decide +kernel
theorem dX4_store_35 : decode cX4_store 35 = .ok (.aload_n 0, 1) := by decide +kernel
theorem dX4_store_36 : decode cX4_store 36 = .ok (.getfield 40, 3) := by decide +kernel
theorem dX4_store_39 : decode cX4_store 39 = .ok (.sipush 400, 3) := by decide +kernel
theorem dX4_store_42 : decode cX4_store 42 = .ok (.iload_n 2, 1) := by decide +kernel
theorem dX4_store_43 : decode cX4_store 43 = .ok (.imul, 1) := by decide +kernel
theorem dX4_store_44 : decode cX4_store 44 = .ok (.iload 5, 2) := by decide +kernel
theorem dX4_store_46 : decode cX4_store 46 = .ok (.iadd, 1) := by decide +kernel
theorem dX4_store_47 : decode cX4_store 47 = .ok (.iload 6, 2) := by decide +kernel
theorem dX4_store_49 : decode cX4_store 49 = .ok (.iastore, 1) := by decide +kernel
theorem dX4_store_50 : decode cX4_store 50 = .ok (.aload_n 0, 1) := by decide +kernel
theorem dX4_store_51 : decode cX4_store 51 = .ok (.getfield 43, 3) := by decide +kernel
theorem dX4_store_54 : decode cX4_store 54 = .ok (.sipush 400, 3) := by decide +kernel
theorem dX4_store_57 : decode cX4_store 57 = .ok (.iload_n 2, 1) := by decide +kernel
theorem dX4_store_58 : decode cX4_store 58 = .ok (.imul, 1) := by decide +kernel
theorem dX4_store_59 : decode cX4_store 59 = .ok (.iload 5, 2) := by decide +kernel
theorem dX4_store_61 : decode cX4_store 61 = .ok (.iadd, 1) := by decide +kernel
theorem dX4_store_62 : decode cX4_store 62 = .ok (.iload 7, 2) := by decide +kernel
theorem dX4_store_64 : decode cX4_store 64 = .ok (.iastore, 1) := by decide +kernel
theorem dX4_store_65 : decode cX4_store 65 = .ok (.iinc 5 1, 3) := by decide +kernel
theorem dX4_store_68 : decode cX4_store 68 = .ok (.goto (-58), 3) := by decide +kernel
theorem dX4_store_71 : decode cX4_store 71 = .ok (.aload_n 0, 1) := by decide +kernel
theorem dX4_store_72 : decode cX4_store 72 = .ok (.getfield 37, 3) := by decide +kernel
theorem dX4_store_75 : decode cX4_store 75 = .ok (.iload_n 2, 1) := by decide +kernel
theorem dX4_store_76 : decode cX4_store 76 = .ok (.iload 4, 2) := by decide +kernel
theorem dX4_store_78 : decode cX4_store 78 = .ok (.iastore, 1) := by decide +kernel
theorem dX4_store_79 : decode cX4_store 79 = .ok (.aload_n 0, 1) := by decide +kernel
theorem dX4_store_80 : decode cX4_store 80 = .ok (.getfield 31, 3) := by decide +kernel
theorem dX4_store_83 : decode cX4_store 83 = .ok (.iload_n 2, 1) := by decide +kernel
theorem dX4_store_84 : decode cX4_store 84 = .ok (.iload_n 3, 1) := by decide +kernel
theorem dX4_store_85 : decode cX4_store 85 = .ok (.iastore, 1) := by decide +kernel
theorem dX4_store_86 : decode cX4_store 86 = .ok (.iload 4, 2) := by decide +kernel
theorem dX4_store_88 : decode cX4_store 88 = .ok (.ireturn, 1) := by decide +kernel
theorem dX4_put_0 : decode cX4_put 0 = .ok (.aload_n 0, 1) := by decide +kernel
theorem dX4_put_1 : decode cX4_put 1 = .ok (.iload_n 1, 1) := by decide +kernel
theorem dX4_put_2 : decode cX4_put 2 = .ok (.invokevirtual 72, 3) := by decide +kernel
theorem dX4_put_5 : decode cX4_put 5 = .ok (.istore_n 3, 1) := by decide +kernel
theorem dX4_put_6 : decode cX4_put 6 = .ok (.iload_n 3, 1) := by decide +kernel
theorem dX4_put_7 : decode cX4_put 7 = .ok (.ifCond .lt 10, 3) := by decide +kernel
theorem dX4_put_10 : decode cX4_put 10 = .ok (.iload_n 2, 1) := by decide +kernel
theorem dX4_put_11 : decode cX4_put 11 = .ok (.invokestatic 64, 3) := by decide +kernel
theorem dX4_put_14 : decode cX4_put 14 = .ok (.ifCond .ne 17, 3) := by decide +kernel
theorem dX4_put_17 : decode cX4_put 17 = .ok (.aload_n 0, 1) := by decide +kernel
theorem dX4_put_18 : decode cX4_put 18 = .ok (.iload_n 3, 1) := by decide +kernel
theorem dX4_put_19 : decode cX4_put 19 = .ok (.ifCond .ge 7, 3) := by decide +kernel
theorem dX4_put_22 : decode cX4_put 22 = .ok (.iload_n 3, 1) := by decide +kernel
theorem dX4_put_23 : decode cX4_put 23 = .ok (.goto 4, 3) := by decide +kernel
theorem dX4_put_26 : decode cX4_put 26 = .ok (.iconst (-1), 1) := by decide +kernel
theorem dX4_put_27 : decode cX4_put 27 = .ok (.invokevirtual 86, 3) := by decide +kernel
theorem dX4_put_30 : decode cX4_put 30 = .ok (.ireturn, 1) := by decide +kernel
theorem dX4_put_31 : decode cX4_put 31 = .ok (.aload_n 0, 1) := by decide +kernel
theorem dX4_put_32 : decode cX4_put 32 = .ok (.getfield 31, 3) := by decide +kernel
theorem dX4_put_35 : decode cX4_put 35 = .ok (.iload_n 1, 1) := by decide +kernel
theorem dX4_put_36 : decode cX4_put 36 = .ok (.iaload, 1) := by decide +kernel
theorem dX4_put_37 : decode cX4_put 37 = .ok (.iconst 1, 1) := by decide +kernel
theorem dX4_put_38 : decode cX4_put 38 = .ok (.if_icmp .ne 25, 3) := by decide +kernel
theorem dX4_put_41 : decode cX4_put 41 = .ok (.aload_n 0, 1) := by decide +kernel
theorem dX4_put_42 : decode cX4_put 42 = .ok (.getfield 31, 3) := by decide +kernel
theorem dX4_put_45 : decode cX4_put 45 = .ok (.iload_n 2, 1) := by decide +kernel
theorem dX4_put_46 : decode cX4_put 46 = .ok (.iconst 1, 1) := by decide +kernel
theorem dX4_put_47 : decode cX4_put 47 = .ok (.iastore, 1) := by decide +kernel
theorem dX4_put_48 : decode cX4_put 48 = .ok (.aload_n 0, 1) := by decide +kernel
theorem dX4_put_49 : decode cX4_put 49 = .ok (.getfield 34, 3) := by decide +kernel
theorem dX4_put_52 : decode cX4_put 52 = .ok (.iload_n 2, 1) := by decide +kernel
theorem dX4_put_53 : decode cX4_put 53 = .ok (.aload_n 0, 1) := by decide +kernel
theorem dX4_put_54 : decode cX4_put 54 = .ok (.getfield 34, 3) := by decide +kernel
theorem dX4_put_57 : decode cX4_put 57 = .ok (.iload_n 1, 1) := by decide +kernel
theorem dX4_put_58 : decode cX4_put 58 = .ok (.iaload, 1) := by decide +kernel
theorem dX4_put_59 : decode cX4_put 59 = .ok (.iastore, 1) := by decide +kernel
theorem dX4_put_60 : decode cX4_put 60 = .ok (.goto 16, 3) := by decide +kernel
theorem dX4_put_63 : decode cX4_put 63 = .ok (.aload_n 0, 1) := by decide +kernel
theorem dX4_put_64 : decode cX4_put 64 = .ok (.iload_n 1, 1) := by decide +kernel
theorem dX4_put_65 : decode cX4_put 65 = .ok (.iload_n 2, 1) := by decide +kernel
theorem dX4_put_66 : decode cX4_put 66 = .ok (.aload_n 0, 1) := by decide +kernel
theorem dX4_put_67 : decode cX4_put 67 = .ok (.getfield 31, 3) := by decide +kernel
theorem dX4_put_70 : decode cX4_put 70 = .ok (.iload_n 1, 1) := by decide +kernel
theorem dX4_put_71 : decode cX4_put 71 = .ok (.iaload, 1) := by decide +kernel
theorem dX4_put_72 : decode cX4_put 72 = .ok (.invokevirtual 116, 3) := by decide +kernel
theorem dX4_put_75 : decode cX4_put 75 = .ok (.pop, 1) := by decide +kernel
theorem dX4_put_76 : decode cX4_put 76 = .ok (.aload_n 0, 1) := by decide +kernel
theorem dX4_put_77 : decode cX4_put 77 = .ok (.getfield 31, 3) := by decide +kernel
theorem dX4_put_80 : decode cX4_put 80 = .ok (.iload_n 2, 1) := by decide +kernel
theorem dX4_put_81 : decode cX4_put 81 = .ok (.iaload, 1) := by decide +kernel
theorem dX4_put_82 : decode cX4_put 82 = .ok (.iconst 1, 1) := by decide +kernel
theorem dX4_put_83 : decode cX4_put 83 = .ok (.isub, 1) := by decide +kernel
theorem dX4_put_84 : decode cX4_put 84 = .ok (.ireturn, 1) := by decide +kernel
theorem dX4_take_0 : decode cX4_take 0 = .ok (.iload_n 1, 1) := by decide +kernel
theorem dX4_take_1 : decode cX4_take 1 = .ok (.invokestatic 64, 3) := by decide +kernel
theorem dX4_take_4 : decode cX4_take 4 = .ok (.ifCond .ne 9, 3) := by decide +kernel
theorem dX4_take_7 : decode cX4_take 7 = .ok (.aload_n 0, 1) := by decide +kernel
theorem dX4_take_8 : decode cX4_take 8 = .ok (.iconst (-1), 1) := by decide +kernel
theorem dX4_take_9 : decode cX4_take 9 = .ok (.invokevirtual 86, 3) := by decide +kernel
theorem dX4_take_12 : decode cX4_take 12 = .ok (.ireturn, 1) := by decide +kernel
theorem dX4_take_13 : decode cX4_take 13 = .ok (.aload_n 0, 1) := by decide +kernel
theorem dX4_take_14 : decode cX4_take 14 = .ok (.getfield 31, 3) := by decide +kernel
theorem dX4_take_17 : decode cX4_take 17 = .ok (.iload_n 1, 1) := by decide +kernel
theorem dX4_take_18 : decode cX4_take 18 = .ok (.iconst 0, 1) := by decide +kernel
theorem dX4_take_19 : decode cX4_take 19 = .ok (.iastore, 1) := by decide +kernel
theorem dX4_take_20 : decode cX4_take 20 = .ok (.iconst 0, 1) := by decide +kernel
theorem dX4_take_21 : decode cX4_take 21 = .ok (.ireturn, 1) := by decide +kernel
theorem dX4_row_0 : decode cX4_row 0 = .ok (.aload_n 0, 1) := by decide +kernel
theorem dX4_row_1 : decode cX4_row 1 = .ok (.iload_n 1, 1) := by decide +kernel
theorem dX4_row_2 : decode cX4_row 2 = .ok (.invokevirtual 72, 3) := by decide +kernel
theorem dX4_row_5 : decode cX4_row 5 = .ok (.istore_n 3, 1) := by decide +kernel
theorem dX4_row_6 : decode cX4_row 6 = .ok (.iload_n 3, 1) := by decide +kernel
theorem dX4_row_7 : decode cX4_row 7 = .ok (.ifCond .lt 12, 3) := by decide +kernel
theorem dX4_row_10 : decode cX4_row 10 = .ok (.iload_n 2, 1) := by decide +kernel
theorem dX4_row_11 : decode cX4_row 11 = .ok (.ifCond .lt 8, 3) := by decide +kernel
theorem dX4_row_14 : decode cX4_row 14 = .ok (.iload_n 2, 1) := by decide +kernel
theorem dX4_row_15 : decode cX4_row 15 = .ok (.iconst 2, 1) := by decide +kernel
theorem dX4_row_16 : decode cX4_row 16 = .ok (.if_icmp .le 17, 3) := by decide +kernel
theorem dX4_row_19 : decode cX4_row 19 = .ok (.aload_n 0, 1) := by decide +kernel
theorem dX4_row_20 : decode cX4_row 20 = .ok (.iload_n 3, 1) := by decide +kernel
theorem dX4_row_21 : decode cX4_row 21 = .ok (.ifCond .ge 7, 3) := by decide +kernel
theorem dX4_row_24 : decode cX4_row 24 = .ok (.iload_n 3, 1) := by decide +kernel
theorem dX4_row_25 : decode cX4_row 25 = .ok (.goto 4, 3) := by decide +kernel
theorem dX4_row_28 : decode cX4_row 28 = .ok (.iconst (-1), 1) := by decide +kernel
theorem dX4_row_29 : decode cX4_row 29 = .ok (.invokevirtual 86, 3) := by decide +kernel
theorem dX4_row_32 : decode cX4_row 32 = .ok (.ireturn, 1) := by decide +kernel
theorem dX4_row_33 : decode cX4_row 33 = .ok (.iload_n 2, 1) := by decide +kernel
theorem dX4_row_34 : decode cX4_row 34 = .ok (.iconst 2, 1) := by decide +kernel
theorem dX4_row_35 : decode cX4_row 35 = .ok (.if_icmp .ne 20, 3) := by decide +kernel
theorem dX4_row_38 : decode cX4_row 38 = .ok (.aload_n 0, 1) := by decide +kernel
theorem dX4_row_39 : decode cX4_row 39 = .ok (.getfield 31, 3) := by decide +kernel
theorem dX4_row_42 : decode cX4_row 42 = .ok (.iload_n 1, 1) := by decide +kernel
theorem dX4_row_43 : decode cX4_row 43 = .ok (.iaload, 1) := by decide +kernel
theorem dX4_row_44 : decode cX4_row 44 = .ok (.iconst 1, 1) := by decide +kernel
theorem dX4_row_45 : decode cX4_row 45 = .ok (.if_icmp .eq 10, 3) := by decide +kernel
theorem dX4_row_48 : decode cX4_row 48 = .ok (.aload_n 0, 1) := by decide +kernel
theorem dX4_row_49 : decode cX4_row 49 = .ok (.bipush (-3), 2) := by decide +kernel
theorem dX4_row_51 : decode cX4_row 51 = .ok (.invokevirtual 86, 3) := by decide +kernel
theorem dX4_row_54 : decode cX4_row 54 = .ok (.ireturn, 1) := by decide +kernel
theorem dX4_row_55 : decode cX4_row 55 = .ok (.iload_n 2, 1) := by decide +kernel
theorem dX4_row_56 : decode cX4_row 56 = .ok (.ifCond .ne 14, 3) := by decide +kernel
theorem dX4_row_59 : decode cX4_row 59 = .ok (.aload_n 0, 1) := by decide +kernel
theorem dX4_row_60 : decode cX4_row 60 = .ok (.getfield 31, 3) := by decide +kernel
theorem dX4_row_63 : decode cX4_row 63 = .ok (.iload_n 1, 1) := by decide +kernel
theorem dX4_row_64 : decode cX4_row 64 = .ok (.iaload, 1) := by decide +kernel
theorem dX4_row_65 : decode cX4_row 65 = .ok (.iconst 1, 1) := by decide +kernel
theorem dX4_row_66 : decode cX4_row 66 = .ok (.isub, 1) := by decide +kernel
theorem dX4_row_67 : decode cX4_row 67 = .ok (.goto 22, 3) := by decide +kernel
theorem dX4_row_70 : decode cX4_row 70 = .ok (.iload_n 2, 1) := by decide +kernel
theorem dX4_row_71 : decode cX4_row 71 = .ok (.iconst 1, 1) := by decide +kernel
theorem dX4_row_72 : decode cX4_row 72 = .ok (.if_icmp .ne 11, 3) := by decide +kernel
theorem dX4_row_75 : decode cX4_row 75 = .ok (.aload_n 0, 1) := by decide +kernel
theorem dX4_row_76 : decode cX4_row 76 = .ok (.iload_n 1, 1) := by decide +kernel
theorem dX4_row_77 : decode cX4_row 77 = .ok (.invokevirtual 68, 3) := by decide +kernel
theorem dX4_row_80 : decode cX4_row 80 = .ok (.goto 9, 3) := by decide +kernel
theorem dX4_row_83 : decode cX4_row 83 = .ok (.aload_n 0, 1) := by decide +kernel
theorem dX4_row_84 : decode cX4_row 84 = .ok (.getfield 34, 3) := by decide +kernel
theorem dX4_row_87 : decode cX4_row 87 = .ok (.iload_n 1, 1) := by decide +kernel
theorem dX4_row_88 : decode cX4_row 88 = .ok (.iaload, 1) := by decide +kernel
theorem dX4_row_89 : decode cX4_row 89 = .ok (.ireturn, 1) := by decide +kernel
theorem dX4_lookAt_0 : decode cX4_lookAt 0 = .ok (.aload_n 0, 1) := by decide +kernel
theorem dX4_lookAt_1 : decode cX4_lookAt 1 = .ok (.iload_n 1, 1) := by decide +kernel
theorem dX4_lookAt_2 : decode cX4_lookAt 2 = .ok (.invokevirtual 72, 3) := by decide +kernel
theorem dX4_lookAt_5 : decode cX4_lookAt 5 = .ok (.istore_n 3, 1) := by decide +kernel
theorem dX4_lookAt_6 : decode cX4_lookAt 6 = .ok (.iload_n 3, 1) := by decide +kernel
theorem dX4_lookAt_7 : decode cX4_lookAt 7 = .ok (.ifCond .ge 7, 3) := by decide +kernel
theorem dX4_lookAt_10 : decode cX4_lookAt 10 = .ok (.iload_n 3, 1) := by decide +kernel
theorem dX4_lookAt_11 : decode cX4_lookAt 11 = .ok (.goto 21, 3) := by decide +kernel
theorem dX4_lookAt_14 : decode cX4_lookAt 14 = .ok (.iload_n 2, 1) := by decide +kernel
theorem dX4_lookAt_15 : decode cX4_lookAt 15 = .ok (.ifCond .lt 12, 3) := by decide +kernel
theorem dX4_lookAt_18 : decode cX4_lookAt 18 = .ok (.iload_n 2, 1) := by decide +kernel
theorem dX4_lookAt_19 : decode cX4_lookAt 19 = .ok (.aload_n 0, 1) := by decide +kernel
theorem dX4_lookAt_20 : decode cX4_lookAt 20 = .ok (.iload_n 1, 1) := by decide +kernel
theorem dX4_lookAt_21 : decode cX4_lookAt 21 = .ok (.invokevirtual 68, 3) := by decide +kernel
theorem dX4_lookAt_24 : decode cX4_lookAt 24 = .ok (.if_icmp .lt 7, 3) := by decide +kernel
theorem dX4_lookAt_27 : decode cX4_lookAt 27 = .ok (.iconst (-1), 1) := by decide +kernel
theorem dX4_lookAt_28 : decode cX4_lookAt 28 = .ok (.goto 4, 3) := by decide +kernel
theorem dX4_lookAt_31 : decode cX4_lookAt 31 = .ok (.iconst 0, 1) := by decide +kernel
theorem dX4_lookAt_32 : decode cX4_lookAt 32 = .ok (.ireturn, 1) := by decide +kernel
theorem dX4_at_0 : decode cX4_at 0 = .ok (.aload_n 0, 1) := by decide +kernel
theorem dX4_at_1 : decode cX4_at 1 = .ok (.iload_n 1, 1) := by decide +kernel
theorem dX4_at_2 : decode cX4_at 2 = .ok (.iload_n 2, 1) := by decide +kernel
theorem dX4_at_3 : decode cX4_at 3 = .ok (.invokevirtual 119, 3) := by decide +kernel
theorem dX4_at_6 : decode cX4_at 6 = .ok (.istore_n 3, 1) := by decide +kernel
theorem dX4_at_7 : decode cX4_at 7 = .ok (.iload_n 3, 1) := by decide +kernel
theorem dX4_at_8 : decode cX4_at 8 = .ok (.ifCond .ge 11, 3) := by decide +kernel
theorem dX4_at_11 : decode cX4_at 11 = .ok (.aload_n 0, 1) := by decide +kernel
theorem dX4_at_12 : decode cX4_at 12 = .ok (.iload_n 3, 1) := by decide +kernel
theorem dX4_at_13 : decode cX4_at 13 = .ok (.invokevirtual 86, 3) := by decide +kernel
theorem dX4_at_16 : decode cX4_at 16 = .ok (.goto 9, 3) := by decide +kernel
theorem dX4_at_19 : decode cX4_at 19 = .ok (.aload_n 0, 1) := by decide +kernel
theorem dX4_at_20 : decode cX4_at 20 = .ok (.iload_n 1, 1) := by decide +kernel
theorem dX4_at_21 : decode cX4_at 21 = .ok (.iload_n 2, 1) := by decide +kernel
theorem dX4_at_22 : decode cX4_at 22 = .ok (.invokevirtual 103, 3) := by decide +kernel
theorem dX4_at_25 : decode cX4_at 25 = .ok (.ireturn, 1) := by decide +kernel
theorem dX4_weight_0 : decode cX4_weight 0 = .ok (.aload_n 0, 1) := by decide +kernel
theorem dX4_weight_1 : decode cX4_weight 1 = .ok (.iload_n 1, 1) := by decide +kernel
theorem dX4_weight_2 : decode cX4_weight 2 = .ok (.iload_n 2, 1) := by decide +kernel
theorem dX4_weight_3 : decode cX4_weight 3 = .ok (.invokevirtual 119, 3) := by decide +kernel
theorem dX4_weight_6 : decode cX4_weight 6 = .ok (.istore_n 3, 1) := by decide +kernel
theorem dX4_weight_7 : decode cX4_weight 7 = .ok (.iload_n 3, 1) := by decide +kernel
theorem dX4_weight_8 : decode cX4_weight 8 = .ok (.ifCond .ge 11, 3) := by decide +kernel
theorem dX4_weight_11 : decode cX4_weight 11 = .ok (.aload_n 0, 1) := by decide +kernel
theorem dX4_weight_12 : decode cX4_weight 12 = .ok (.iload_n 3, 1) := by decide +kernel
theorem dX4_weight_13 : decode cX4_weight 13 = .ok (.invokevirtual 86, 3) := by decide +kernel
theorem dX4_weight_16 : decode cX4_weight 16 = .ok (.pop, 1) := by decide +kernel
theorem dX4_weight_17 : decode cX4_weight 17 = .ok (.lconst 0, 1) := by decide +kernel
theorem dX4_weight_18 : decode cX4_weight 18 = .ok (.lreturn, 1) := by decide +kernel
theorem dX4_weight_19 : decode cX4_weight 19 = .ok (.aload_n 0, 1) := by decide +kernel
theorem dX4_weight_20 : decode cX4_weight 20 = .ok (.iload_n 1, 1) := by decide +kernel
theorem dX4_weight_21 : decode cX4_weight 21 = .ok (.iload_n 2, 1) := by decide +kernel
theorem dX4_weight_22 : decode cX4_weight 22 = .ok (.invokevirtual 106, 3) := by decide +kernel
theorem dX4_weight_25 : decode cX4_weight 25 = .ok (.i2l, 1) := by decide +kernel
theorem dX4_weight_26 : decode cX4_weight 26 = .ok (.lreturn, 1) := by decide +kernel
theorem dX4_bits_0 : decode cX4_bits 0 = .ok (.aload_n 0, 1) := by decide +kernel
theorem dX4_bits_1 : decode cX4_bits 1 = .ok (.getfield 31, 3) := by decide +kernel
theorem dX4_bits_4 : decode cX4_bits 4 = .ok (.iload_n 1, 1) := by decide +kernel
theorem dX4_bits_5 : decode cX4_bits 5 = .ok (.iaload, 1) := by decide +kernel
theorem dX4_bits_6 : decode cX4_bits 6 = .ok (.iconst 3, 1) := by decide +kernel
theorem dX4_bits_7 : decode cX4_bits 7 = .ok (.if_icmp .ne 8, 3) := by decide +kernel
theorem dX4_bits_10 : decode cX4_bits 10 = .ok (.bipush 8, 2) := by decide +kernel
theorem dX4_bits_12 : decode cX4_bits 12 = .ok (.goto 5, 3) := by decide +kernel
theorem dX4_bits_15 : decode cX4_bits 15 = .ok (.bipush 10, 2) := by decide +kernel
theorem dX4_bits_17 : decode cX4_bits 17 = .ok (.ireturn, 1) := by decide +kernel
theorem dX4_arrange_0 : decode cX4_arrange 0 = .ok (.aload_n 0, 1) := by decide +kernel
theorem dX4_arrange_1 : decode cX4_arrange 1 = .ok (.iload_n 1, 1) := by decide +kernel
theorem dX4_arrange_2 : decode cX4_arrange 2 = .ok (.invokevirtual 68, 3) := by decide +kernel
theorem dX4_arrange_5 : decode cX4_arrange 5 = .ok (.istore_n 3, 1) := by decide +kernel
theorem dX4_arrange_6 : decode cX4_arrange 6 = .ok (.iconst 0, 1) := by decide +kernel
theorem dX4_arrange_7 : decode cX4_arrange 7 = .ok (.istore 4, 2) := by decide +kernel
theorem dX4_arrange_9 : decode cX4_arrange 9 = .ok (.iload 4, 2) := by decide +kernel
theorem dX4_arrange_11 : decode cX4_arrange 11 = .ok (.iload_n 3, 1) := by decide +kernel
theorem dX4_arrange_12 : decode cX4_arrange 12 = .ok (.if_icmp .ge 18, 3) := by decide +kernel
theorem dX4_arrange_15 : decode cX4_arrange 15 = .ok (.aload_n 0, 1) := by decide +kernel
theorem dX4_arrange_16 : decode cX4_arrange 16 = .ok (.getfield 52, 3) := by decide +kernel
theorem dX4_arrange_19 : decode cX4_arrange 19 = .ok (.iload 4, 2) := by decide +kernel
theorem dX4_arrange_21 : decode cX4_arrange 21 = .ok (.iload 4, 2) := by decide +kernel
theorem dX4_arrange_23 : decode cX4_arrange 23 = .ok (.iastore, 1) := by decide +kernel
theorem dX4_arrange_24 : decode cX4_arrange 24 = .ok (.iinc 4 1, 3) := by decide +kernel
theorem dX4_arrange_27 : decode cX4_arrange 27 = .ok (.goto (-18), 3) := by decide +kernel
theorem dX4_arrange_30 : decode cX4_arrange 30 = .ok (.iconst 0, 1) := by decide +kernel
theorem dX4_arrange_31 : decode cX4_arrange 31 = .ok (.istore 4, 2) := by decide +kernel
theorem dX4_arrange_33 : decode cX4_arrange 33 = .ok (.iload 4, 2) := by decide +kernel
theorem dX4_arrange_35 : decode cX4_arrange 35 = .ok (.iload_n 2, 1) := by decide +kernel
theorem dX4_arrange_36 : decode cX4_arrange 36 = .ok (.if_icmp .ge 118, 3) := by decide +kernel
theorem dX4_arrange_39 : decode cX4_arrange 39 = .ok (.iconst 0, 1) := by decide +kernel
theorem dX4_arrange_40 : decode cX4_arrange 40 = .ok (.istore 5, 2) := by decide +kernel
theorem dX4_arrange_42 : decode cX4_arrange 42 = .ok (.iconst 0, 1) := by decide +kernel
theorem dX4_arrange_43 : decode cX4_arrange 43 = .ok (.istore 6, 2) := by decide +kernel
theorem dX4_arrange_45 : decode cX4_arrange 45 = .ok (.iload 6, 2) := by decide +kernel
theorem dX4_arrange_47 : decode cX4_arrange 47 = .ok (.iconst 2, 1) := by decide +kernel
theorem dX4_arrange_48 : decode cX4_arrange 48 = .ok (.if_icmp .ge 71, 3) := by decide +kernel
theorem dX4_arrange_51 : decode cX4_arrange 51 = .ok (.iconst 0, 1) := by decide +kernel
theorem dX4_arrange_52 : decode cX4_arrange 52 = .ok (.istore 7, 2) := by decide +kernel
theorem dX4_arrange_54 : decode cX4_arrange 54 = .ok (.iload 7, 2) := by decide +kernel
theorem dX4_arrange_56 : decode cX4_arrange 56 = .ok (.iload_n 3, 1) := by decide +kernel
theorem dX4_arrange_57 : decode cX4_arrange 57 = .ok (.if_icmp .ge 56, 3) := by decide +kernel
theorem dX4_arrange_60 : decode cX4_arrange 60 = .ok (.aload_n 0, 1) := by decide +kernel
theorem dX4_arrange_61 : decode cX4_arrange 61 = .ok (.iload_n 1, 1) := by decide +kernel
theorem dX4_arrange_62 : decode cX4_arrange 62 = .ok (.aload_n 0, 1) := by decide +kernel
theorem dX4_arrange_63 : decode cX4_arrange 63 = .ok (.getfield 52, 3) := by decide +kernel
theorem dX4_arrange_66 : decode cX4_arrange 66 = .ok (.iload 7, 2) := by decide +kernel
theorem dX4_arrange_68 : decode cX4_arrange 68 = .ok (.iaload, 1) := by decide +kernel
theorem dX4_arrange_69 : decode cX4_arrange 69 = .ok (.invokevirtual 103, 3) := by decide +kernel
theorem dX4_arrange_72 : decode cX4_arrange 72 = .ok (.aload_n 0, 1) := by decide +kernel
theorem dX4_arrange_73 : decode cX4_arrange 73 = .ok (.iload_n 1, 1) := by decide +kernel
theorem dX4_arrange_74 : decode cX4_arrange 74 = .ok (.invokevirtual 122, 3) := by decide +kernel
theorem dX4_arrange_77 : decode cX4_arrange 77 = .ok (.iconst 1, 1) := by decide +kernel
theorem dX4_arrange_78 : decode cX4_arrange 78 = .ok (.isub, 1) := by decide +kernel
theorem dX4_arrange_79 : decode cX4_arrange 79 = .ok (.iload 4, 2) := by decide +kernel
theorem dX4_arrange_81 : decode cX4_arrange 81 = .ok (.isub, 1) := by decide +kernel
theorem dX4_arrange_82 : decode cX4_arrange 82 = .ok (.ishr, 1) := by decide +kernel
theorem dX4_arrange_83 : decode cX4_arrange 83 = .ok (.iconst 1, 1) := by decide +kernel
theorem dX4_arrange_84 : decode cX4_arrange 84 = .ok (.iand, 1) := by decide +kernel
theorem dX4_arrange_85 : decode cX4_arrange 85 = .ok (.iload 6, 2) := by decide +kernel
theorem dX4_arrange_87 : decode cX4_arrange 87 = .ok (.if_icmp .ne 20, 3) := by decide +kernel
theorem dX4_arrange_90 : decode cX4_arrange 90 = .ok (.aload_n 0, 1) := by decide +kernel
theorem dX4_arrange_91 : decode cX4_arrange 91 = .ok (.getfield 55, 3) := by decide +kernel
theorem dX4_arrange_94 : decode cX4_arrange 94 = .ok (.iload 5, 2) := by decide +kernel
theorem dX4_arrange_96 : decode cX4_arrange 96 = .ok (.aload_n 0, 1) := by decide +kernel
theorem dX4_arrange_97 : decode cX4_arrange 97 = .ok (.getfield 52, 3) := by decide +kernel
theorem dX4_arrange_100 : decode cX4_arrange 100 = .ok (.iload 7, 2) := by decide +kernel
theorem dX4_arrange_102 : decode cX4_arrange 102 = .ok (.iaload, 1) := by decide +kernel
theorem dX4_arrange_103 : decode cX4_arrange 103 = .ok (.iastore, 1) := by decide +kernel
theorem dX4_arrange_104 : decode cX4_arrange 104 = .ok (.iinc 5 1, 3) := by decide +kernel
theorem dX4_arrange_107 : decode cX4_arrange 107 = .ok (.iinc 7 1, 3) := by decide +kernel
theorem dX4_arrange_110 : decode cX4_arrange 110 = .ok (.goto (-56), 3) := by decide +kernel
theorem dX4_arrange_113 : decode cX4_arrange 113 = .ok (.iinc 6 1, 3) := by decide +kernel
theorem dX4_arrange_116 : decode cX4_arrange 116 = .ok (.goto (-71), 3) := by decide +kernel
theorem dX4_arrange_119 : decode cX4_arrange 119 = .ok (.iconst 0, 1) := by decide +kernel
theorem dX4_arrange_120 : decode cX4_arrange 120 = .ok (.istore 6, 2) := by decide +kernel
theorem dX4_arrange_122 : decode cX4_arrange 122 = .ok (.iload 6, 2) := by decide +kernel
theorem dX4_arrange_124 : decode cX4_arrange 124 = .ok (.iload_n 3, 1) := by decide +kernel
theorem dX4_arrange_125 : decode cX4_arrange 125 = .ok (.if_icmp .ge 23, 3) := by decide +kernel
theorem dX4_arrange_128 : decode cX4_arrange 128 = .ok (.aload_n 0, 1) := by decide +kernel
theorem dX4_arrange_129 : decode cX4_arrange 129 = .ok (.getfield 52, 3) := by decide +kernel
theorem dX4_arrange_132 : decode cX4_arrange 132 = .ok (.iload 6, 2) := by decide +kernel
theorem dX4_arrange_134 : decode cX4_arrange 134 = .ok (.aload_n 0, 1) := by decide +kernel
theorem dX4_arrange_135 : decode cX4_arrange 135 = .ok (.getfield 55, 3) := by decide +kernel
theorem dX4_arrange_138 : decode cX4_arrange 138 = .ok (.iload 6, 2) := by decide +kernel
theorem dX4_arrange_140 : decode cX4_arrange 140 = .ok (.iaload, 1) := by decide +kernel
theorem dX4_arrange_141 : decode cX4_arrange 141 = .ok (.iastore, 1) := by decide +kernel
theorem dX4_arrange_142 : decode cX4_arrange 142 = .ok (.iinc 6 1, 3) := by decide +kernel
theorem dX4_arrange_145 : decode cX4_arrange 145 = .ok (.goto (-23), 3) := by decide +kernel
theorem dX4_arrange_148 : decode cX4_arrange 148 = .ok (.iinc 4 1, 3) := by decide +kernel
theorem dX4_arrange_151 : decode cX4_arrange 151 = .ok (.goto (-118), 3) := by decide +kernel
theorem dX4_arrange_154 : decode cX4_arrange 154 = .ok (.return_, 1) := by decide +kernel
theorem dX4_lookPlane_0 : decode cX4_lookPlane 0 = .ok (.aload_n 0, 1) := by decide +kernel
theorem dX4_lookPlane_1 : decode cX4_lookPlane 1 = .ok (.iload_n 1, 1) := by decide +kernel
theorem dX4_lookPlane_2 : decode cX4_lookPlane 2 = .ok (.invokevirtual 72, 3) := by decide +kernel
theorem dX4_lookPlane_5 : decode cX4_lookPlane 5 = .ok (.istore_n 3, 1) := by decide +kernel
theorem dX4_lookPlane_6 : decode cX4_lookPlane 6 = .ok (.iload_n 3, 1) := by decide +kernel
theorem dX4_lookPlane_7 : decode cX4_lookPlane 7 = .ok (.ifCond .ge 7, 3) := by decide +kernel
theorem dX4_lookPlane_10 : decode cX4_lookPlane 10 = .ok (.iload_n 3, 1) := by decide +kernel
theorem dX4_lookPlane_11 : decode cX4_lookPlane 11 = .ok (.goto 36, 3) := by decide +kernel
theorem dX4_lookPlane_14 : decode cX4_lookPlane 14 = .ok (.aload_n 0, 1) := by decide +kernel
theorem dX4_lookPlane_15 : decode cX4_lookPlane 15 = .ok (.getfield 31, 3) := by decide +kernel
theorem dX4_lookPlane_18 : decode cX4_lookPlane 18 = .ok (.iload_n 1, 1) := by decide +kernel
theorem dX4_lookPlane_19 : decode cX4_lookPlane 19 = .ok (.iaload, 1) := by decide +kernel
theorem dX4_lookPlane_20 : decode cX4_lookPlane 20 = .ok (.iconst 1, 1) := by decide +kernel
theorem dX4_lookPlane_21 : decode cX4_lookPlane 21 = .ok (.if_icmp .ne 8, 3) := by decide +kernel
theorem dX4_lookPlane_24 : decode cX4_lookPlane 24 = .ok (.bipush (-3), 2) := by decide +kernel
theorem dX4_lookPlane_26 : decode cX4_lookPlane 26 = .ok (.goto 21, 3) := by decide +kernel
theorem dX4_lookPlane_29 : decode cX4_lookPlane 29 = .ok (.iload_n 2, 1) := by decide +kernel
theorem dX4_lookPlane_30 : decode cX4_lookPlane 30 = .ok (.ifCond .lt 12, 3) := by decide +kernel
theorem dX4_lookPlane_33 : decode cX4_lookPlane 33 = .ok (.iload_n 2, 1) := by decide +kernel
theorem dX4_lookPlane_34 : decode cX4_lookPlane 34 = .ok (.aload_n 0, 1) := by decide +kernel
theorem dX4_lookPlane_35 : decode cX4_lookPlane 35 = .ok (.iload_n 1, 1) := by decide +kernel
theorem dX4_lookPlane_36 : decode cX4_lookPlane 36 = .ok (.invokevirtual 122, 3) := by decide +kernel
theorem dX4_lookPlane_39 : decode cX4_lookPlane 39 = .ok (.if_icmp .lt 7, 3) := by decide +kernel
theorem dX4_lookPlane_42 : decode cX4_lookPlane 42 = .ok (.iconst (-1), 1) := by decide +kernel
theorem dX4_lookPlane_43 : decode cX4_lookPlane 43 = .ok (.goto 4, 3) := by decide +kernel
theorem dX4_lookPlane_46 : decode cX4_lookPlane 46 = .ok (.iconst 0, 1) := by decide +kernel
theorem dX4_lookPlane_47 : decode cX4_lookPlane 47 = .ok (.ireturn, 1) := by decide +kernel
theorem dX4_bitOf_0 : decode cX4_bitOf 0 = .ok (.aload_n 0, 1) := by decide +kernel
theorem dX4_bitOf_1 : decode cX4_bitOf 1 = .ok (.iload_n 1, 1) := by decide +kernel
theorem dX4_bitOf_2 : decode cX4_bitOf 2 = .ok (.aload_n 0, 1) := by decide +kernel
theorem dX4_bitOf_3 : decode cX4_bitOf 3 = .ok (.getfield 52, 3) := by decide +kernel
theorem dX4_bitOf_6 : decode cX4_bitOf 6 = .ok (.iload_n 3, 1) := by decide +kernel
theorem dX4_bitOf_7 : decode cX4_bitOf 7 = .ok (.iaload, 1) := by decide +kernel
theorem dX4_bitOf_8 : decode cX4_bitOf 8 = .ok (.invokevirtual 103, 3) := by decide +kernel
theorem dX4_bitOf_11 : decode cX4_bitOf 11 = .ok (.aload_n 0, 1) := by decide +kernel
theorem dX4_bitOf_12 : decode cX4_bitOf 12 = .ok (.iload_n 1, 1) := by decide +kernel
theorem dX4_bitOf_13 : decode cX4_bitOf 13 = .ok (.invokevirtual 122, 3) := by decide +kernel
theorem dX4_bitOf_16 : decode cX4_bitOf 16 = .ok (.iconst 1, 1) := by decide +kernel
theorem dX4_bitOf_17 : decode cX4_bitOf 17 = .ok (.isub, 1) := by decide +kernel
theorem dX4_bitOf_18 : decode cX4_bitOf 18 = .ok (.iload_n 2, 1) := by decide +kernel
theorem dX4_bitOf_19 : decode cX4_bitOf 19 = .ok (.isub, 1) := by decide +kernel
theorem dX4_bitOf_20 : decode cX4_bitOf 20 = .ok (.ishr, 1) := by decide +kernel
theorem dX4_bitOf_21 : decode cX4_bitOf 21 = .ok (.iconst 1, 1) := by decide +kernel
theorem dX4_bitOf_22 : decode cX4_bitOf 22 = .ok (.iand, 1) := by decide +kernel
theorem dX4_bitOf_23 : decode cX4_bitOf 23 = .ok (.ireturn, 1) := by decide +kernel
theorem dX4_bit_0 : decode cX4_bit 0 = .ok (.aload_n 0, 1) := by decide +kernel
theorem dX4_bit_1 : decode cX4_bit 1 = .ok (.iload_n 1, 1) := by decide +kernel
theorem dX4_bit_2 : decode cX4_bit 2 = .ok (.iload_n 2, 1) := by decide +kernel
theorem dX4_bit_3 : decode cX4_bit 3 = .ok (.invokevirtual 125, 3) := by decide +kernel
theorem dX4_bit_6 : decode cX4_bit 6 = .ok (.istore 4, 2) := by decide +kernel
theorem dX4_bit_8 : decode cX4_bit 8 = .ok (.iload 4, 2) := by decide +kernel
theorem dX4_bit_10 : decode cX4_bit 10 = .ok (.ifCond .lt 16, 3) := by decide +kernel
theorem dX4_bit_13 : decode cX4_bit 13 = .ok (.iload_n 3, 1) := by decide +kernel
theorem dX4_bit_14 : decode cX4_bit 14 = .ok (.ifCond .lt 12, 3) := by decide +kernel
theorem dX4_bit_17 : decode cX4_bit 17 = .ok (.iload_n 3, 1) := by decide +kernel
theorem dX4_bit_18 : decode cX4_bit 18 = .ok (.aload_n 0, 1) := by decide +kernel
theorem dX4_bit_19 : decode cX4_bit 19 = .ok (.iload_n 1, 1) := by decide +kernel
theorem dX4_bit_20 : decode cX4_bit 20 = .ok (.invokevirtual 68, 3) := by decide +kernel
theorem dX4_bit_23 : decode cX4_bit 23 = .ok (.if_icmp .lt 19, 3) := by decide +kernel
theorem dX4_bit_26 : decode cX4_bit 26 = .ok (.aload_n 0, 1) := by decide +kernel
theorem dX4_bit_27 : decode cX4_bit 27 = .ok (.iload 4, 2) := by decide +kernel
theorem dX4_bit_29 : decode cX4_bit 29 = .ok (.ifCond .ge 8, 3) := by decide +kernel
theorem dX4_bit_32 : decode cX4_bit 32 = .ok (.iload 4, 2) := by decide +kernel
theorem dX4_bit_34 : decode cX4_bit 34 = .ok (.goto 4, 3) := by decide +kernel
theorem dX4_bit_37 : decode cX4_bit 37 = .ok (.iconst (-1), 1) := by decide +kernel
theorem dX4_bit_38 : decode cX4_bit 38 = .ok (.invokevirtual 86, 3) := by decide +kernel
theorem dX4_bit_41 : decode cX4_bit 41 = .ok (.ireturn, 1) := by decide +kernel
theorem dX4_bit_42 : decode cX4_bit 42 = .ok (.aload_n 0, 1) := by decide +kernel
theorem dX4_bit_43 : decode cX4_bit 43 = .ok (.iload_n 1, 1) := by decide +kernel
theorem dX4_bit_44 : decode cX4_bit 44 = .ok (.iload_n 2, 1) := by decide +kernel
theorem dX4_bit_45 : decode cX4_bit 45 = .ok (.invokevirtual 128, 3) := by decide +kernel
theorem dX4_bit_48 : decode cX4_bit 48 = .ok (.aload_n 0, 1) := by decide +kernel
theorem dX4_bit_49 : decode cX4_bit 49 = .ok (.iload_n 1, 1) := by decide +kernel
theorem dX4_bit_50 : decode cX4_bit 50 = .ok (.iload_n 2, 1) := by decide +kernel
theorem dX4_bit_51 : decode cX4_bit 51 = .ok (.iload_n 3, 1) := by decide +kernel
theorem dX4_bit_52 : decode cX4_bit 52 = .ok (.invokevirtual 131, 3) := by decide +kernel
theorem dX4_bit_55 : decode cX4_bit 55 = .ok (.ireturn, 1) := by decide +kernel
theorem dX4_ones_0 : decode cX4_ones 0 = .ok (.aload_n 0, 1) := by decide +kernel
theorem dX4_ones_1 : decode cX4_ones 1 = .ok (.iload_n 1, 1) := by decide +kernel
theorem dX4_ones_2 : decode cX4_ones 2 = .ok (.iload_n 2, 1) := by decide +kernel
theorem dX4_ones_3 : decode cX4_ones 3 = .ok (.invokevirtual 125, 3) := by decide +kernel
theorem dX4_ones_6 : decode cX4_ones 6 = .ok (.istore 4, 2) := by decide +kernel
theorem dX4_ones_8 : decode cX4_ones 8 = .ok (.iload 4, 2) := by decide +kernel
theorem dX4_ones_10 : decode cX4_ones 10 = .ok (.ifCond .lt 16, 3) := by decide +kernel
theorem dX4_ones_13 : decode cX4_ones 13 = .ok (.iload_n 3, 1) := by decide +kernel
theorem dX4_ones_14 : decode cX4_ones 14 = .ok (.ifCond .lt 12, 3) := by decide +kernel
theorem dX4_ones_17 : decode cX4_ones 17 = .ok (.iload_n 3, 1) := by decide +kernel
theorem dX4_ones_18 : decode cX4_ones 18 = .ok (.aload_n 0, 1) := by decide +kernel
theorem dX4_ones_19 : decode cX4_ones 19 = .ok (.iload_n 1, 1) := by decide +kernel
theorem dX4_ones_20 : decode cX4_ones 20 = .ok (.invokevirtual 68, 3) := by decide +kernel
theorem dX4_ones_23 : decode cX4_ones 23 = .ok (.if_icmp .le 19, 3) := by decide +kernel
theorem dX4_ones_26 : decode cX4_ones 26 = .ok (.aload_n 0, 1) := by decide +kernel
theorem dX4_ones_27 : decode cX4_ones 27 = .ok (.iload 4, 2) := by decide +kernel
theorem dX4_ones_29 : decode cX4_ones 29 = .ok (.ifCond .ge 8, 3) := by decide +kernel
theorem dX4_ones_32 : decode cX4_ones 32 = .ok (.iload 4, 2) := by decide +kernel
theorem dX4_ones_34 : decode cX4_ones 34 = .ok (.goto 4, 3) := by decide +kernel
theorem dX4_ones_37 : decode cX4_ones 37 = .ok (.iconst (-1), 1) := by decide +kernel
theorem dX4_ones_38 : decode cX4_ones 38 = .ok (.invokevirtual 86, 3) := by decide +kernel
theorem dX4_ones_41 : decode cX4_ones 41 = .ok (.ireturn, 1) := by decide +kernel
theorem dX4_ones_42 : decode cX4_ones 42 = .ok (.aload_n 0, 1) := by decide +kernel
theorem dX4_ones_43 : decode cX4_ones 43 = .ok (.iload_n 1, 1) := by decide +kernel
theorem dX4_ones_44 : decode cX4_ones 44 = .ok (.iload_n 2, 1) := by decide +kernel
theorem dX4_ones_45 : decode cX4_ones 45 = .ok (.invokevirtual 128, 3) := by decide +kernel
theorem dX4_ones_48 : decode cX4_ones 48 = .ok (.iconst 0, 1) := by decide +kernel
theorem dX4_ones_49 : decode cX4_ones 49 = .ok (.istore 5, 2) := by decide +kernel
theorem dX4_ones_51 : decode cX4_ones 51 = .ok (.iconst 0, 1) := by decide +kernel
theorem dX4_ones_52 : decode cX4_ones 52 = .ok (.istore 6, 2) := by decide +kernel
theorem dX4_ones_54 : decode cX4_ones 54 = .ok (.iload 6, 2) := by decide +kernel
theorem dX4_ones_56 : decode cX4_ones 56 = .ok (.iload_n 3, 1) := by decide +kernel
theorem dX4_ones_57 : decode cX4_ones 57 = .ok (.if_icmp .ge 22, 3) := by decide +kernel
theorem dX4_ones_60 : decode cX4_ones 60 = .ok (.iload 5, 2) := by decide +kernel
theorem dX4_ones_62 : decode cX4_ones 62 = .ok (.aload_n 0, 1) := by decide +kernel
theorem dX4_ones_63 : decode cX4_ones 63 = .ok (.iload_n 1, 1) := by decide +kernel
theorem dX4_ones_64 : decode cX4_ones 64 = .ok (.iload_n 2, 1) := by decide +kernel
theorem dX4_ones_65 : decode cX4_ones 65 = .ok (.iload 6, 2) := by decide +kernel
theorem dX4_ones_67 : decode cX4_ones 67 = .ok (.invokevirtual 131, 3) := by decide +kernel
theorem dX4_ones_70 : decode cX4_ones 70 = .ok (.iadd, 1) := by decide +kernel
theorem dX4_ones_71 : decode cX4_ones 71 = .ok (.istore 5, 2) := by decide +kernel
theorem dX4_ones_73 : decode cX4_ones 73 = .ok (.iinc 6 1, 3) := by decide +kernel
theorem dX4_ones_76 : decode cX4_ones 76 = .ok (.goto (-22), 3) := by decide +kernel
theorem dX4_ones_79 : decode cX4_ones 79 = .ok (.iload 5, 2) := by decide +kernel
theorem dX4_ones_81 : decode cX4_ones 81 = .ok (.ireturn, 1) := by decide +kernel
theorem dX4_count_0 : decode cX4_count 0 = .ok (.iconst 0, 1) := by decide +kernel
theorem dX4_count_1 : decode cX4_count 1 = .ok (.istore 5, 2) := by decide +kernel
theorem dX4_count_3 : decode cX4_count 3 = .ok (.iload 5, 2) := by decide +kernel
theorem dX4_count_5 : decode cX4_count 5 = .ok (.sipush 1024, 3) := by decide +kernel
theorem dX4_count_8 : decode cX4_count 8 = .ok (.if_icmp .ge 15, 3) := by decide +kernel
theorem dX4_count_11 : decode cX4_count 11 = .ok (.aload 4, 2) := by decide +kernel
theorem dX4_count_13 : decode cX4_count 13 = .ok (.iload 5, 2) := by decide +kernel
theorem dX4_count_15 : decode cX4_count 15 = .ok (.iconst 0, 1) := by decide +kernel
theorem dX4_count_16 : decode cX4_count 16 = .ok (.iastore, 1) := by decide +kernel
theorem dX4_count_17 : decode cX4_count 17 = .ok (.iinc 5 1, 3) := by decide +kernel
theorem dX4_count_20 : decode cX4_count 20 = .ok (.goto (-17), 3) := by decide +kernel
theorem dX4_count_23 : decode cX4_count 23 = .ok (.iload_n 2, 1) := by decide +kernel
theorem dX4_count_24 : decode cX4_count 24 = .ok (.istore 5, 2) := by decide +kernel
theorem dX4_count_26 : decode cX4_count 26 = .ok (.iload 5, 2) := by decide +kernel
theorem dX4_count_28 : decode cX4_count 28 = .ok (.iload_n 3, 1) := by decide +kernel
theorem dX4_count_29 : decode cX4_count 29 = .ok (.if_icmp .ge 23, 3) := by decide +kernel
theorem dX4_count_32 : decode cX4_count 32 = .ok (.aload 4, 2) := by decide +kernel
theorem dX4_count_34 : decode cX4_count 34 = .ok (.aload_n 0, 1) := by decide +kernel
theorem dX4_count_35 : decode cX4_count 35 = .ok (.iload_n 1, 1) := by decide +kernel
theorem dX4_count_36 : decode cX4_count 36 = .ok (.iload 5, 2) := by decide +kernel
theorem dX4_count_38 : decode cX4_count 38 = .ok (.invokevirtual 103, 3) := by decide +kernel
theorem dX4_count_41 : decode cX4_count 41 = .ok (.dup2, 1) := by decide +kernel
theorem dX4_count_42 : decode cX4_count 42 = .ok (.iaload, 1) := by decide +kernel
theorem dX4_count_43 : decode cX4_count 43 = .ok (.iconst 1, 1) := by decide +kernel
theorem dX4_count_44 : decode cX4_count 44 = .ok (.iadd, 1) := by decide +kernel
theorem dX4_count_45 : decode cX4_count 45 = .ok (.iastore, 1) := by decide +kernel
theorem dX4_count_46 : decode cX4_count 46 = .ok (.iinc 5 1, 3) := by decide +kernel
theorem dX4_count_49 : decode cX4_count 49 = .ok (.goto (-23), 3) := by decide +kernel
theorem dX4_count_52 : decode cX4_count 52 = .ok (.return_, 1) := by decide +kernel
theorem dX4_find_0 : decode cX4_find 0 = .ok (.iload 4, 2) := by decide +kernel
theorem dX4_find_2 : decode cX4_find 2 = .ok (.ifCond .lt 11, 3) := by decide +kernel
theorem dX4_find_5 : decode cX4_find 5 = .ok (.iload 4, 2) := by decide +kernel
theorem dX4_find_7 : decode cX4_find 7 = .ok (.iload_n 3, 1) := by decide +kernel
theorem dX4_find_8 : decode cX4_find 8 = .ok (.iload_n 2, 1) := by decide +kernel
theorem dX4_find_9 : decode cX4_find 9 = .ok (.isub, 1) := by decide +kernel
theorem dX4_find_10 : decode cX4_find 10 = .ok (.if_icmp .lt 10, 3) := by decide +kernel
theorem dX4_find_13 : decode cX4_find 13 = .ok (.aload_n 0, 1) := by decide +kernel
theorem dX4_find_14 : decode cX4_find 14 = .ok (.bipush (-6), 2) := by decide +kernel
theorem dX4_find_16 : decode cX4_find 16 = .ok (.invokevirtual 86, 3) := by decide +kernel
theorem dX4_find_19 : decode cX4_find 19 = .ok (.ireturn, 1) := by decide +kernel
theorem dX4_find_20 : decode cX4_find 20 = .ok (.aload_n 0, 1) := by decide +kernel
theorem dX4_find_21 : decode cX4_find 21 = .ok (.iload_n 1, 1) := by decide +kernel
theorem dX4_find_22 : decode cX4_find 22 = .ok (.iload_n 2, 1) := by decide +kernel
theorem dX4_find_23 : decode cX4_find 23 = .ok (.iload_n 3, 1) := by decide +kernel
theorem dX4_find_24 : decode cX4_find 24 = .ok (.aload_n 0, 1) := by decide +kernel
theorem dX4_find_25 : decode cX4_find 25 = .ok (.getfield 58, 3) := by decide +kernel
theorem dX4_find_28 : decode cX4_find 28 = .ok (.invokevirtual 134, 3) := by decide +kernel
theorem dX4_find_31 : decode cX4_find 31 = .ok (.iconst 0, 1) := by decide +kernel
theorem dX4_find_32 : decode cX4_find 32 = .ok (.istore 5, 2) := by decide +kernel
theorem dX4_find_34 : decode cX4_find 34 = .ok (.iload 4, 2) := by decide +kernel
theorem dX4_find_36 : decode cX4_find 36 = .ok (.istore 6, 2) := by decide +kernel
theorem dX4_find_38 : decode cX4_find 38 = .ok (.iload 6, 2) := by decide +kernel
theorem dX4_find_40 : decode cX4_find 40 = .ok (.aload_n 0, 1) := by decide +kernel
theorem dX4_find_41 : decode cX4_find 41 = .ok (.getfield 58, 3) := by decide +kernel
theorem dX4_find_44 : decode cX4_find 44 = .ok (.iload 5, 2) := by decide +kernel
theorem dX4_find_46 : decode cX4_find 46 = .ok (.iaload, 1) := by decide +kernel
theorem dX4_find_47 : decode cX4_find 47 = .ok (.if_icmp .lt 21, 3) := by decide +kernel
theorem dX4_find_50 : decode cX4_find 50 = .ok (.iload 6, 2) := by decide +kernel
theorem dX4_find_52 : decode cX4_find 52 = .ok (.aload_n 0, 1) := by decide +kernel
theorem dX4_find_53 : decode cX4_find 53 = .ok (.getfield 58, 3) := by decide +kernel
theorem dX4_find_56 : decode cX4_find 56 = .ok (.iload 5, 2) := by decide +kernel
theorem dX4_find_58 : decode cX4_find 58 = .ok (.iaload, 1) := by decide +kernel
theorem dX4_find_59 : decode cX4_find 59 = .ok (.isub, 1) := by decide +kernel
theorem dX4_find_60 : decode cX4_find 60 = .ok (.istore 6, 2) := by decide +kernel
theorem dX4_find_62 : decode cX4_find 62 = .ok (.iinc 5 1, 3) := by decide +kernel
theorem dX4_find_65 : decode cX4_find 65 = .ok (.goto (-27), 3) := by decide +kernel
theorem dX4_find_68 : decode cX4_find 68 = .ok (.aload_n 0, 1) := by decide +kernel
theorem dX4_find_69 : decode cX4_find 69 = .ok (.aload_n 0, 1) := by decide +kernel
theorem dX4_find_70 : decode cX4_find 70 = .ok (.iload_n 1, 1) := by decide +kernel
theorem dX4_find_71 : decode cX4_find 71 = .ok (.invokevirtual 122, 3) := by decide +kernel
theorem dX4_find_74 : decode cX4_find 74 = .ok (.putfield 138, 3) := by decide +kernel
theorem dX4_find_77 : decode cX4_find 77 = .ok (.iconst 0, 1) := by decide +kernel
theorem dX4_find_78 : decode cX4_find 78 = .ok (.istore 7, 2) := by decide +kernel
theorem dX4_find_80 : decode cX4_find 80 = .ok (.iload 7, 2) := by decide +kernel
theorem dX4_find_82 : decode cX4_find 82 = .ok (.aload_n 0, 1) := by decide +kernel
theorem dX4_find_83 : decode cX4_find 83 = .ok (.getfield 138, 3) := by decide +kernel
theorem dX4_find_86 : decode cX4_find 86 = .ok (.if_icmp .ge 93, 3) := by decide +kernel
theorem dX4_find_89 : decode cX4_find 89 = .ok (.aload_n 0, 1) := by decide +kernel
theorem dX4_find_90 : decode cX4_find 90 = .ok (.getfield 138, 3) := by decide +kernel
theorem dX4_find_93 : decode cX4_find 93 = .ok (.iconst 1, 1) := by decide +kernel
theorem dX4_find_94 : decode cX4_find 94 = .ok (.isub, 1) := by decide +kernel
theorem dX4_find_95 : decode cX4_find 95 = .ok (.iload 7, 2) := by decide +kernel
theorem dX4_find_97 : decode cX4_find 97 = .ok (.isub, 1) := by decide +kernel
theorem dX4_find_98 : decode cX4_find 98 = .ok (.istore 8, 2) := by decide +kernel
theorem dX4_find_100 : decode cX4_find 100 = .ok (.iconst 0, 1) := by decide +kernel
theorem dX4_find_101 : decode cX4_find 101 = .ok (.istore 9, 2) := by decide +kernel
theorem dX4_find_103 : decode cX4_find 103 = .ok (.iload_n 2, 1) := by decide +kernel
theorem dX4_find_104 : decode cX4_find 104 = .ok (.istore 10, 2) := by decide +kernel
theorem dX4_find_106 : decode cX4_find 106 = .ok (.iload 10, 2) := by decide +kernel
theorem dX4_find_108 : decode cX4_find 108 = .ok (.iload_n 3, 1) := by decide +kernel
theorem dX4_find_109 : decode cX4_find 109 = .ok (.if_icmp .ge 55, 3) := by decide +kernel
theorem dX4_find_112 : decode cX4_find 112 = .ok (.aload_n 0, 1) := by decide +kernel
theorem dX4_find_113 : decode cX4_find 113 = .ok (.iload_n 1, 1) := by decide +kernel
theorem dX4_find_114 : decode cX4_find 114 = .ok (.iload 10, 2) := by decide +kernel
theorem dX4_find_116 : decode cX4_find 116 = .ok (.invokevirtual 103, 3) := by decide +kernel
theorem dX4_find_119 : decode cX4_find 119 = .ok (.istore 11, 2) := by decide +kernel
theorem dX4_find_121 : decode cX4_find 121 = .ok (.iload 9, 2) := by decide +kernel
theorem dX4_find_123 : decode cX4_find 123 = .ok (.iload 11, 2) := by decide +kernel
theorem dX4_find_125 : decode cX4_find 125 = .ok (.iload 8, 2) := by decide +kernel
theorem dX4_find_127 : decode cX4_find 127 = .ok (.iconst 1, 1) := by decide +kernel
theorem dX4_find_128 : decode cX4_find 128 = .ok (.iadd, 1) := by decide +kernel
theorem dX4_find_129 : decode cX4_find 129 = .ok (.ishr, 1) := by decide +kernel
theorem dX4_find_130 : decode cX4_find 130 = .ok (.iload 5, 2) := by decide +kernel
theorem dX4_find_132 : decode cX4_find 132 = .ok (.iload 8, 2) := by decide +kernel
theorem dX4_find_134 : decode cX4_find 134 = .ok (.iconst 1, 1) := by decide +kernel
theorem dX4_find_135 : decode cX4_find 135 = .ok (.iadd, 1) := by decide +kernel
theorem dX4_find_136 : decode cX4_find 136 = .ok (.ishr, 1) := by decide +kernel
theorem dX4_find_137 : decode cX4_find 137 = .ok (.if_icmp .ne 17, 3) := by decide +kernel
theorem dX4_find_140 : decode cX4_find 140 = .ok (.iload 11, 2) := by decide +kernel
theorem dX4_find_142 : decode cX4_find 142 = .ok (.iload 8, 2) := by decide +kernel
theorem dX4_find_144 : decode cX4_find 144 = .ok (.ishr, 1) := by decide +kernel
theorem dX4_find_145 : decode cX4_find 145 = .ok (.iconst 1, 1) := by decide +kernel
theorem dX4_find_146 : decode cX4_find 146 = .ok (.iand, 1) := by decide +kernel
theorem dX4_find_147 : decode cX4_find 147 = .ok (.ifCond .ne 7, 3) := by decide +kernel
theorem dX4_find_150 : decode cX4_find 150 = .ok (.iconst 1, 1) := by decide +kernel
theorem dX4_find_151 : decode cX4_find 151 = .ok (.goto 4, 3) := by decide +kernel
theorem dX4_find_154 : decode cX4_find 154 = .ok (.iconst 0, 1) := by decide +kernel
theorem dX4_find_155 : decode cX4_find 155 = .ok (.iadd, 1) := by decide +kernel
theorem dX4_find_156 : decode cX4_find 156 = .ok (.istore 9, 2) := by decide +kernel
theorem dX4_find_158 : decode cX4_find 158 = .ok (.iinc 10 1, 3) := by decide +kernel
theorem dX4_find_161 : decode cX4_find 161 = .ok (.goto (-55), 3) := by decide +kernel
theorem dX4_find_164 : decode cX4_find 164 = .ok (.aload_n 0, 1) := by decide +kernel
theorem dX4_find_165 : decode cX4_find 165 = .ok (.getfield 46, 3) := by decide +kernel
theorem dX4_find_168 : decode cX4_find 168 = .ok (.iload 7, 2) := by decide +kernel
theorem dX4_find_170 : decode cX4_find 170 = .ok (.iload 9, 2) := by decide +kernel
theorem dX4_find_172 : decode cX4_find 172 = .ok (.iastore, 1) := by decide +kernel
theorem dX4_find_173 : decode cX4_find 173 = .ok (.iinc 7 1, 3) := by decide +kernel
theorem dX4_find_176 : decode cX4_find 176 = .ok (.goto (-96), 3) := by decide +kernel
theorem dX4_find_179 : decode cX4_find 179 = .ok (.iload 5, 2) := by decide +kernel
theorem dX4_find_181 : decode cX4_find 181 = .ok (.ireturn, 1) := by decide +kernel
theorem dX4_kth_0 : decode cX4_kth 0 = .ok (.aload_n 0, 1) := by decide +kernel
theorem dX4_kth_1 : decode cX4_kth 1 = .ok (.iload_n 1, 1) := by decide +kernel
theorem dX4_kth_2 : decode cX4_kth 2 = .ok (.iload_n 2, 1) := by decide +kernel
theorem dX4_kth_3 : decode cX4_kth 3 = .ok (.iload_n 3, 1) := by decide +kernel
theorem dX4_kth_4 : decode cX4_kth 4 = .ok (.invokevirtual 99, 3) := by decide +kernel
theorem dX4_kth_7 : decode cX4_kth 7 = .ok (.istore 5, 2) := by decide +kernel
theorem dX4_kth_9 : decode cX4_kth 9 = .ok (.iload 5, 2) := by decide +kernel
theorem dX4_kth_11 : decode cX4_kth 11 = .ok (.ifCond .ge 12, 3) := by decide +kernel
theorem dX4_kth_14 : decode cX4_kth 14 = .ok (.aload_n 0, 1) := by decide +kernel
theorem dX4_kth_15 : decode cX4_kth 15 = .ok (.iload 5, 2) := by decide +kernel
theorem dX4_kth_17 : decode cX4_kth 17 = .ok (.invokevirtual 86, 3) := by decide +kernel
theorem dX4_kth_20 : decode cX4_kth 20 = .ok (.goto 12, 3) := by decide +kernel
theorem dX4_kth_23 : decode cX4_kth 23 = .ok (.aload_n 0, 1) := by decide +kernel
theorem dX4_kth_24 : decode cX4_kth 24 = .ok (.iload_n 1, 1) := by decide +kernel
theorem dX4_kth_25 : decode cX4_kth 25 = .ok (.iload_n 2, 1) := by decide +kernel
theorem dX4_kth_26 : decode cX4_kth 26 = .ok (.iload_n 3, 1) := by decide +kernel
theorem dX4_kth_27 : decode cX4_kth 27 = .ok (.iload 4, 2) := by decide +kernel
theorem dX4_kth_29 : decode cX4_kth 29 = .ok (.invokevirtual 141, 3) := by decide +kernel
theorem dX4_kth_32 : decode cX4_kth 32 = .ok (.ireturn, 1) := by decide +kernel
theorem dX4_within_0 : decode cX4_within 0 = .ok (.iconst 0, 1) := by decide +kernel
theorem dX4_within_1 : decode cX4_within 1 = .ok (.istore 8, 2) := by decide +kernel
theorem dX4_within_3 : decode cX4_within 3 = .ok (.iload_n 2, 1) := by decide +kernel
theorem dX4_within_4 : decode cX4_within 4 = .ok (.istore 9, 2) := by decide +kernel
theorem dX4_within_6 : decode cX4_within 6 = .ok (.iload 9, 2) := by decide +kernel
theorem dX4_within_8 : decode cX4_within 8 = .ok (.iload_n 3, 1) := by decide +kernel
theorem dX4_within_9 : decode cX4_within 9 = .ok (.if_icmp .ge 47, 3) := by decide +kernel
theorem dX4_within_12 : decode cX4_within 12 = .ok (.iload 8, 2) := by decide +kernel
theorem dX4_within_14 : decode cX4_within 14 = .ok (.aload_n 0, 1) := by decide +kernel
theorem dX4_within_15 : decode cX4_within 15 = .ok (.iload_n 1, 1) := by decide +kernel
theorem dX4_within_16 : decode cX4_within 16 = .ok (.iload 9, 2) := by decide +kernel
theorem dX4_within_18 : decode cX4_within 18 = .ok (.invokevirtual 103, 3) := by decide +kernel
theorem dX4_within_21 : decode cX4_within 21 = .ok (.i2l, 1) := by decide +kernel
theorem dX4_within_22 : decode cX4_within 22 = .ok (.lload 4, 2) := by decide +kernel
theorem dX4_within_24 : decode cX4_within 24 = .ok (.lcmp, 1) := by decide +kernel
theorem dX4_within_25 : decode cX4_within 25 = .ok (.ifCond .lt 21, 3) := by decide +kernel
theorem dX4_within_28 : decode cX4_within 28 = .ok (.aload_n 0, 1) := by decide +kernel
theorem dX4_within_29 : decode cX4_within 29 = .ok (.iload_n 1, 1) := by decide +kernel
theorem dX4_within_30 : decode cX4_within 30 = .ok (.iload 9, 2) := by decide +kernel
theorem dX4_within_32 : decode cX4_within 32 = .ok (.invokevirtual 103, 3) := by decide +kernel
theorem dX4_within_35 : decode cX4_within 35 = .ok (.i2l, 1) := by decide +kernel
theorem dX4_within_36 : decode cX4_within 36 = .ok (.lload 6, 2) := by decide +kernel
theorem dX4_within_38 : decode cX4_within 38 = .ok (.lcmp, 1) := by decide +kernel
theorem dX4_within_39 : decode cX4_within 39 = .ok (.ifCond .gt 7, 3) := by decide +kernel
theorem dX4_within_42 : decode cX4_within 42 = .ok (.iconst 1, 1) := by decide +kernel
theorem dX4_within_43 : decode cX4_within 43 = .ok (.goto 4, 3) := by decide +kernel
theorem dX4_within_46 : decode cX4_within 46 = .ok (.iconst 0, 1) := by decide +kernel
theorem dX4_within_47 : decode cX4_within 47 = .ok (.iadd, 1) := by decide +kernel
theorem dX4_within_48 : decode cX4_within 48 = .ok (.istore 8, 2) := by decide +kernel
theorem dX4_within_50 : decode cX4_within 50 = .ok (.iinc 9 1, 3) := by decide +kernel
theorem dX4_within_53 : decode cX4_within 53 = .ok (.goto (-47), 3) := by decide +kernel
theorem dX4_within_56 : decode cX4_within 56 = .ok (.iload 8, 2) := by decide +kernel
theorem dX4_within_58 : decode cX4_within 58 = .ok (.ireturn, 1) := by decide +kernel
theorem dX4_rank_0 : decode cX4_rank 0 = .ok (.aload_n 0, 1) := by decide +kernel
theorem dX4_rank_1 : decode cX4_rank 1 = .ok (.iload_n 1, 1) := by decide +kernel
theorem dX4_rank_2 : decode cX4_rank 2 = .ok (.iload_n 2, 1) := by decide +kernel
theorem dX4_rank_3 : decode cX4_rank 3 = .ok (.iload_n 3, 1) := by decide +kernel
theorem dX4_rank_4 : decode cX4_rank 4 = .ok (.invokevirtual 99, 3) := by decide +kernel
theorem dX4_rank_7 : decode cX4_rank 7 = .ok (.istore 5, 2) := by decide +kernel
theorem dX4_rank_9 : decode cX4_rank 9 = .ok (.iload 5, 2) := by decide +kernel
theorem dX4_rank_11 : decode cX4_rank 11 = .ok (.ifCond .ge 12, 3) := by decide +kernel
theorem dX4_rank_14 : decode cX4_rank 14 = .ok (.aload_n 0, 1) := by decide +kernel
theorem dX4_rank_15 : decode cX4_rank 15 = .ok (.iload 5, 2) := by decide +kernel
theorem dX4_rank_17 : decode cX4_rank 17 = .ok (.invokevirtual 86, 3) := by decide +kernel
theorem dX4_rank_20 : decode cX4_rank 20 = .ok (.goto 18, 3) := by decide +kernel
theorem dX4_rank_23 : decode cX4_rank 23 = .ok (.aload_n 0, 1) := by decide +kernel
theorem dX4_rank_24 : decode cX4_rank 24 = .ok (.iload_n 1, 1) := by decide +kernel
theorem dX4_rank_25 : decode cX4_rank 25 = .ok (.iload_n 2, 1) := by decide +kernel
theorem dX4_rank_26 : decode cX4_rank 26 = .ok (.iload_n 3, 1) := by decide +kernel
theorem dX4_rank_27 : decode cX4_rank 27 = .ok (.ldc2_w 147, 3) := by decide +kernel
theorem dX4_rank_30 : decode cX4_rank 30 = .ok (.iload 4, 2) := by decide +kernel
theorem dX4_rank_32 : decode cX4_rank 32 = .ok (.i2l, 1) := by decide +kernel
theorem dX4_rank_33 : decode cX4_rank 33 = .ok (.lconst 1, 1) := by decide +kernel
theorem dX4_rank_34 : decode cX4_rank 34 = .ok (.lsub, 1) := by decide +kernel
theorem dX4_rank_35 : decode cX4_rank 35 = .ok (.invokevirtual 149, 3) := by decide +kernel
theorem dX4_rank_38 : decode cX4_rank 38 = .ok (.ireturn, 1) := by decide +kernel
theorem dX4_between_0 : decode cX4_between 0 = .ok (.aload_n 0, 1) := by decide +kernel
theorem dX4_between_1 : decode cX4_between 1 = .ok (.iload_n 1, 1) := by decide +kernel
theorem dX4_between_2 : decode cX4_between 2 = .ok (.iload_n 2, 1) := by decide +kernel
theorem dX4_between_3 : decode cX4_between 3 = .ok (.iload_n 3, 1) := by decide +kernel
theorem dX4_between_4 : decode cX4_between 4 = .ok (.invokevirtual 99, 3) := by decide +kernel
theorem dX4_between_7 : decode cX4_between 7 = .ok (.istore 6, 2) := by decide +kernel
theorem dX4_between_9 : decode cX4_between 9 = .ok (.iload 6, 2) := by decide +kernel
theorem dX4_between_11 : decode cX4_between 11 = .ok (.ifCond .ge 12, 3) := by decide +kernel
theorem dX4_between_14 : decode cX4_between 14 = .ok (.aload_n 0, 1) := by decide +kernel
theorem dX4_between_15 : decode cX4_between 15 = .ok (.iload 6, 2) := by decide +kernel
theorem dX4_between_17 : decode cX4_between 17 = .ok (.invokevirtual 86, 3) := by decide +kernel
theorem dX4_between_20 : decode cX4_between 20 = .ok (.goto 16, 3) := by decide +kernel
theorem dX4_between_23 : decode cX4_between 23 = .ok (.aload_n 0, 1) := by decide +kernel
theorem dX4_between_24 : decode cX4_between 24 = .ok (.iload_n 1, 1) := by decide +kernel
theorem dX4_between_25 : decode cX4_between 25 = .ok (.iload_n 2, 1) := by decide +kernel
theorem dX4_between_26 : decode cX4_between 26 = .ok (.iload_n 3, 1) := by decide +kernel
theorem dX4_between_27 : decode cX4_between 27 = .ok (.iload 4, 2) := by decide +kernel
theorem dX4_between_29 : decode cX4_between 29 = .ok (.i2l, 1) := by decide +kernel
theorem dX4_between_30 : decode cX4_between 30 = .ok (.iload 5, 2) := by decide +kernel
theorem dX4_between_32 : decode cX4_between 32 = .ok (.i2l, 1) := by decide +kernel
theorem dX4_between_33 : decode cX4_between 33 = .ok (.invokevirtual 149, 3) := by decide +kernel
theorem dX4_between_36 : decode cX4_between 36 = .ok (.ireturn, 1) := by decide +kernel
theorem dX4_next_0 : decode cX4_next 0 = .ok (.aload_n 0, 1) := by decide +kernel
theorem dX4_next_1 : decode cX4_next 1 = .ok (.iload_n 1, 1) := by decide +kernel
theorem dX4_next_2 : decode cX4_next 2 = .ok (.iload_n 2, 1) := by decide +kernel
theorem dX4_next_3 : decode cX4_next 3 = .ok (.iload_n 3, 1) := by decide +kernel
theorem dX4_next_4 : decode cX4_next 4 = .ok (.invokevirtual 99, 3) := by decide +kernel
theorem dX4_next_7 : decode cX4_next 7 = .ok (.istore 5, 2) := by decide +kernel
theorem dX4_next_9 : decode cX4_next 9 = .ok (.iload 5, 2) := by decide +kernel
theorem dX4_next_11 : decode cX4_next 11 = .ok (.ifCond .ge 10, 3) := by decide +kernel
theorem dX4_next_14 : decode cX4_next 14 = .ok (.aload_n 0, 1) := by decide +kernel
theorem dX4_next_15 : decode cX4_next 15 = .ok (.iload 5, 2) := by decide +kernel
theorem dX4_next_17 : decode cX4_next 17 = .ok (.invokevirtual 86, 3) := by decide +kernel
theorem dX4_next_20 : decode cX4_next 20 = .ok (.ireturn, 1) := by decide +kernel
theorem dX4_next_21 : decode cX4_next 21 = .ok (.sipush 1024, 3) := by decide +kernel
theorem dX4_next_24 : decode cX4_next 24 = .ok (.istore 6, 2) := by decide +kernel
theorem dX4_next_26 : decode cX4_next 26 = .ok (.iload_n 2, 1) := by decide +kernel
theorem dX4_next_27 : decode cX4_next 27 = .ok (.istore 7, 2) := by decide +kernel
theorem dX4_next_29 : decode cX4_next 29 = .ok (.iload 7, 2) := by decide +kernel
theorem dX4_next_31 : decode cX4_next 31 = .ok (.iload_n 3, 1) := by decide +kernel
theorem dX4_next_32 : decode cX4_next 32 = .ok (.if_icmp .ge 40, 3) := by decide +kernel
theorem dX4_next_35 : decode cX4_next 35 = .ok (.aload_n 0, 1) := by decide +kernel
theorem dX4_next_36 : decode cX4_next 36 = .ok (.iload_n 1, 1) := by decide +kernel
theorem dX4_next_37 : decode cX4_next 37 = .ok (.iload 7, 2) := by decide +kernel
theorem dX4_next_39 : decode cX4_next 39 = .ok (.invokevirtual 103, 3) := by decide +kernel
theorem dX4_next_42 : decode cX4_next 42 = .ok (.iload 4, 2) := by decide +kernel
theorem dX4_next_44 : decode cX4_next 44 = .ok (.if_icmp .lt 18, 3) := by decide +kernel
theorem dX4_next_47 : decode cX4_next 47 = .ok (.iload 6, 2) := by decide +kernel
theorem dX4_next_49 : decode cX4_next 49 = .ok (.aload_n 0, 1) := by decide +kernel
theorem dX4_next_50 : decode cX4_next 50 = .ok (.iload_n 1, 1) := by decide +kernel
theorem dX4_next_51 : decode cX4_next 51 = .ok (.iload 7, 2) := by decide +kernel
theorem dX4_next_53 : decode cX4_next 53 = .ok (.invokevirtual 103, 3) := by decide +kernel
theorem dX4_next_56 : decode cX4_next 56 = .ok (.invokestatic 153, 3) := by decide +kernel
theorem dX4_next_59 : decode cX4_next 59 = .ok (.goto 5, 3) := by decide +kernel
theorem dX4_next_62 : decode cX4_next 62 = .ok (.iload 6, 2) := by decide +kernel
theorem dX4_next_64 : decode cX4_next 64 = .ok (.istore 6, 2) := by decide +kernel
theorem dX4_next_66 : decode cX4_next 66 = .ok (.iinc 7 1, 3) := by decide +kernel
theorem dX4_next_69 : decode cX4_next 69 = .ok (.goto (-40), 3) := by decide +kernel
theorem dX4_next_72 : decode cX4_next 72 = .ok (.iload 6, 2) := by decide +kernel
theorem dX4_next_74 : decode cX4_next 74 = .ok (.sipush 1024, 3) := by decide +kernel
theorem dX4_next_77 : decode cX4_next 77 = .ok (.if_icmp .ne 12, 3) := by decide +kernel
theorem dX4_next_80 : decode cX4_next 80 = .ok (.aload_n 0, 1) := by decide +kernel
theorem dX4_next_81 : decode cX4_next 81 = .ok (.bipush (-6), 2) := by decide +kernel
theorem dX4_next_83 : decode cX4_next 83 = .ok (.invokevirtual 86, 3) := by decide +kernel
theorem dX4_next_86 : decode cX4_next 86 = .ok (.goto 5, 3) := by decide +kernel
theorem dX4_next_89 : decode cX4_next 89 = .ok (.iload 6, 2) := by decide +kernel
theorem dX4_next_91 : decode cX4_next 91 = .ok (.ireturn, 1) := by decide +kernel
theorem dX4_prior_0 : decode cX4_prior 0 = .ok (.aload_n 0, 1) := by decide +kernel
theorem dX4_prior_1 : decode cX4_prior 1 = .ok (.iload_n 1, 1) := by decide +kernel
theorem dX4_prior_2 : decode cX4_prior 2 = .ok (.iload_n 2, 1) := by decide +kernel
theorem dX4_prior_3 : decode cX4_prior 3 = .ok (.iload_n 3, 1) := by decide +kernel
theorem dX4_prior_4 : decode cX4_prior 4 = .ok (.invokevirtual 99, 3) := by decide +kernel
theorem dX4_prior_7 : decode cX4_prior 7 = .ok (.istore 5, 2) := by decide +kernel
theorem dX4_prior_9 : decode cX4_prior 9 = .ok (.iload 5, 2) := by decide +kernel
theorem dX4_prior_11 : decode cX4_prior 11 = .ok (.ifCond .ge 10, 3) := by decide +kernel
theorem dX4_prior_14 : decode cX4_prior 14 = .ok (.aload_n 0, 1) := by decide +kernel
theorem dX4_prior_15 : decode cX4_prior 15 = .ok (.iload 5, 2) := by decide +kernel
theorem dX4_prior_17 : decode cX4_prior 17 = .ok (.invokevirtual 86, 3) := by decide +kernel
theorem dX4_prior_20 : decode cX4_prior 20 = .ok (.ireturn, 1) := by decide +kernel
theorem dX4_prior_21 : decode cX4_prior 21 = .ok (.iconst (-1), 1) := by decide +kernel
theorem dX4_prior_22 : decode cX4_prior 22 = .ok (.istore 6, 2) := by decide +kernel
theorem dX4_prior_24 : decode cX4_prior 24 = .ok (.iload_n 2, 1) := by decide +kernel
theorem dX4_prior_25 : decode cX4_prior 25 = .ok (.istore 7, 2) := by decide +kernel
theorem dX4_prior_27 : decode cX4_prior 27 = .ok (.iload 7, 2) := by decide +kernel
theorem dX4_prior_29 : decode cX4_prior 29 = .ok (.iload_n 3, 1) := by decide +kernel
theorem dX4_prior_30 : decode cX4_prior 30 = .ok (.if_icmp .ge 40, 3) := by decide +kernel
theorem dX4_prior_33 : decode cX4_prior 33 = .ok (.aload_n 0, 1) := by decide +kernel
theorem dX4_prior_34 : decode cX4_prior 34 = .ok (.iload_n 1, 1) := by decide +kernel
theorem dX4_prior_35 : decode cX4_prior 35 = .ok (.iload 7, 2) := by decide +kernel
theorem dX4_prior_37 : decode cX4_prior 37 = .ok (.invokevirtual 103, 3) := by decide +kernel
theorem dX4_prior_40 : decode cX4_prior 40 = .ok (.iload 4, 2) := by decide +kernel
theorem dX4_prior_42 : decode cX4_prior 42 = .ok (.if_icmp .gt 18, 3) := by decide +kernel
theorem dX4_prior_45 : decode cX4_prior 45 = .ok (.iload 6, 2) := by decide +kernel
theorem dX4_prior_47 : decode cX4_prior 47 = .ok (.aload_n 0, 1) := by decide +kernel
theorem dX4_prior_48 : decode cX4_prior 48 = .ok (.iload_n 1, 1) := by decide +kernel
theorem dX4_prior_49 : decode cX4_prior 49 = .ok (.iload 7, 2) := by decide +kernel
theorem dX4_prior_51 : decode cX4_prior 51 = .ok (.invokevirtual 103, 3) := by decide +kernel
theorem dX4_prior_54 : decode cX4_prior 54 = .ok (.invokestatic 158, 3) := by decide +kernel
theorem dX4_prior_57 : decode cX4_prior 57 = .ok (.goto 5, 3) := by decide +kernel
theorem dX4_prior_60 : decode cX4_prior 60 = .ok (.iload 6, 2) := by decide +kernel
theorem dX4_prior_62 : decode cX4_prior 62 = .ok (.istore 6, 2) := by decide +kernel
theorem dX4_prior_64 : decode cX4_prior 64 = .ok (.iinc 7 1, 3) := by decide +kernel
theorem dX4_prior_67 : decode cX4_prior 67 = .ok (.goto (-40), 3) := by decide +kernel
theorem dX4_prior_70 : decode cX4_prior 70 = .ok (.iload 6, 2) := by decide +kernel
theorem dX4_prior_72 : decode cX4_prior 72 = .ok (.iconst (-1), 1) := by decide +kernel
theorem dX4_prior_73 : decode cX4_prior 73 = .ok (.if_icmp .ne 12, 3) := by decide +kernel
theorem dX4_prior_76 : decode cX4_prior 76 = .ok (.aload_n 0, 1) := by decide +kernel
theorem dX4_prior_77 : decode cX4_prior 77 = .ok (.bipush (-6), 2) := by decide +kernel
theorem dX4_prior_79 : decode cX4_prior 79 = .ok (.invokevirtual 86, 3) := by decide +kernel
theorem dX4_prior_82 : decode cX4_prior 82 = .ok (.goto 5, 3) := by decide +kernel
theorem dX4_prior_85 : decode cX4_prior 85 = .ok (.iload 6, 2) := by decide +kernel
theorem dX4_prior_87 : decode cX4_prior 87 = .ok (.ireturn, 1) := by decide +kernel
theorem dX4_median_0 : decode cX4_median 0 = .ok (.aload_n 0, 1) := by decide +kernel
theorem dX4_median_1 : decode cX4_median 1 = .ok (.iload_n 1, 1) := by decide +kernel
theorem dX4_median_2 : decode cX4_median 2 = .ok (.iload_n 2, 1) := by decide +kernel
theorem dX4_median_3 : decode cX4_median 3 = .ok (.iload_n 3, 1) := by decide +kernel
theorem dX4_median_4 : decode cX4_median 4 = .ok (.invokevirtual 99, 3) := by decide +kernel
theorem dX4_median_7 : decode cX4_median 7 = .ok (.istore 4, 2) := by decide +kernel
theorem dX4_median_9 : decode cX4_median 9 = .ok (.iload 4, 2) := by decide +kernel
theorem dX4_median_11 : decode cX4_median 11 = .ok (.ifCond .lt 8, 3) := by decide +kernel
theorem dX4_median_14 : decode cX4_median 14 = .ok (.iload_n 2, 1) := by decide +kernel
theorem dX4_median_15 : decode cX4_median 15 = .ok (.iload_n 3, 1) := by decide +kernel
theorem dX4_median_16 : decode cX4_median 16 = .ok (.if_icmp .ne 20, 3) := by decide +kernel
theorem dX4_median_19 : decode cX4_median 19 = .ok (.aload_n 0, 1) := by decide +kernel
theorem dX4_median_20 : decode cX4_median 20 = .ok (.iload 4, 2) := by decide +kernel
theorem dX4_median_22 : decode cX4_median 22 = .ok (.ifCond .ge 8, 3) := by decide +kernel
theorem dX4_median_25 : decode cX4_median 25 = .ok (.iload 4, 2) := by decide +kernel
theorem dX4_median_27 : decode cX4_median 27 = .ok (.goto 5, 3) := by decide +kernel
theorem dX4_median_30 : decode cX4_median 30 = .ok (.bipush (-6), 2) := by decide +kernel
theorem dX4_median_32 : decode cX4_median 32 = .ok (.invokevirtual 86, 3) := by decide +kernel
theorem dX4_median_35 : decode cX4_median 35 = .ok (.ireturn, 1) := by decide +kernel
theorem dX4_median_36 : decode cX4_median 36 = .ok (.aload_n 0, 1) := by decide +kernel
theorem dX4_median_37 : decode cX4_median 37 = .ok (.iload_n 1, 1) := by decide +kernel
theorem dX4_median_38 : decode cX4_median 38 = .ok (.iload_n 2, 1) := by decide +kernel
theorem dX4_median_39 : decode cX4_median 39 = .ok (.iload_n 3, 1) := by decide +kernel
theorem dX4_median_40 : decode cX4_median 40 = .ok (.iload_n 3, 1) := by decide +kernel
theorem dX4_median_41 : decode cX4_median 41 = .ok (.iload_n 2, 1) := by decide +kernel
theorem dX4_median_42 : decode cX4_median 42 = .ok (.isub, 1) := by decide +kernel
theorem dX4_median_43 : decode cX4_median 43 = .ok (.iconst 1, 1) := by decide +kernel
theorem dX4_median_44 : decode cX4_median 44 = .ok (.isub, 1) := by decide +kernel
theorem dX4_median_45 : decode cX4_median 45 = .ok (.iconst 2, 1) := by decide +kernel
theorem dX4_median_46 : decode cX4_median 46 = .ok (.idiv, 1) := by decide +kernel
theorem dX4_median_47 : decode cX4_median 47 = .ok (.invokevirtual 141, 3) := by decide +kernel
theorem dX4_median_50 : decode cX4_median 50 = .ok (.ireturn, 1) := by decide +kernel
theorem dX4_half_0 : decode cX4_half 0 = .ok (.aload_n 0, 1) := by decide +kernel
theorem dX4_half_1 : decode cX4_half 1 = .ok (.iload_n 1, 1) := by decide +kernel
theorem dX4_half_2 : decode cX4_half 2 = .ok (.iload_n 2, 1) := by decide +kernel
theorem dX4_half_3 : decode cX4_half 3 = .ok (.iload_n 3, 1) := by decide +kernel
theorem dX4_half_4 : decode cX4_half 4 = .ok (.invokevirtual 99, 3) := by decide +kernel
theorem dX4_half_7 : decode cX4_half 7 = .ok (.istore 4, 2) := by decide +kernel
theorem dX4_half_9 : decode cX4_half 9 = .ok (.iload 4, 2) := by decide +kernel
theorem dX4_half_11 : decode cX4_half 11 = .ok (.ifCond .ge 10, 3) := by decide +kernel
theorem dX4_half_14 : decode cX4_half 14 = .ok (.aload_n 0, 1) := by decide +kernel
theorem dX4_half_15 : decode cX4_half 15 = .ok (.iload 4, 2) := by decide +kernel
theorem dX4_half_17 : decode cX4_half 17 = .ok (.invokevirtual 86, 3) := by decide +kernel
theorem dX4_half_20 : decode cX4_half 20 = .ok (.ireturn, 1) := by decide +kernel
theorem dX4_half_21 : decode cX4_half 21 = .ok (.aload_n 0, 1) := by decide +kernel
theorem dX4_half_22 : decode cX4_half 22 = .ok (.iload_n 1, 1) := by decide +kernel
theorem dX4_half_23 : decode cX4_half 23 = .ok (.iload_n 2, 1) := by decide +kernel
theorem dX4_half_24 : decode cX4_half 24 = .ok (.iload_n 3, 1) := by decide +kernel
theorem dX4_half_25 : decode cX4_half 25 = .ok (.aload_n 0, 1) := by decide +kernel
theorem dX4_half_26 : decode cX4_half 26 = .ok (.getfield 58, 3) := by decide +kernel
theorem dX4_half_29 : decode cX4_half 29 = .ok (.invokevirtual 134, 3) := by decide +kernel
theorem dX4_half_32 : decode cX4_half 32 = .ok (.iconst 0, 1) := by decide +kernel
theorem dX4_half_33 : decode cX4_half 33 = .ok (.istore 5, 2) := by decide +kernel
theorem dX4_half_35 : decode cX4_half 35 = .ok (.iload 5, 2) := by decide +kernel
theorem dX4_half_37 : decode cX4_half 37 = .ok (.sipush 1024, 3) := by decide +kernel
theorem dX4_half_40 : decode cX4_half 40 = .ok (.if_icmp .ge 27, 3) := by decide +kernel
theorem dX4_half_43 : decode cX4_half 43 = .ok (.iconst 2, 1) := by decide +kernel
theorem dX4_half_44 : decode cX4_half 44 = .ok (.aload_n 0, 1) := by decide +kernel
theorem dX4_half_45 : decode cX4_half 45 = .ok (.getfield 58, 3) := by decide +kernel
theorem dX4_half_48 : decode cX4_half 48 = .ok (.iload 5, 2) := by decide +kernel
theorem dX4_half_50 : decode cX4_half 50 = .ok (.iaload, 1) := by decide +kernel
theorem dX4_half_51 : decode cX4_half 51 = .ok (.imul, 1) := by decide +kernel
theorem dX4_half_52 : decode cX4_half 52 = .ok (.iload_n 3, 1) := by decide +kernel
theorem dX4_half_53 : decode cX4_half 53 = .ok (.iload_n 2, 1) := by decide +kernel
theorem dX4_half_54 : decode cX4_half 54 = .ok (.isub, 1) := by decide +kernel
theorem dX4_half_55 : decode cX4_half 55 = .ok (.if_icmp .le 6, 3) := by decide +kernel
theorem dX4_half_58 : decode cX4_half 58 = .ok (.iload 5, 2) := by decide +kernel
theorem dX4_half_60 : decode cX4_half 60 = .ok (.ireturn, 1) := by decide +kernel
theorem dX4_half_61 : decode cX4_half 61 = .ok (.iinc 5 1, 3) := by decide +kernel
theorem dX4_half_64 : decode cX4_half 64 = .ok (.goto (-29), 3) := by decide +kernel
theorem dX4_half_67 : decode cX4_half 67 = .ok (.aload_n 0, 1) := by decide +kernel
theorem dX4_half_68 : decode cX4_half 68 = .ok (.bipush (-6), 2) := by decide +kernel
theorem dX4_half_70 : decode cX4_half 70 = .ok (.invokevirtual 86, 3) := by decide +kernel
theorem dX4_half_73 : decode cX4_half 73 = .ok (.ireturn, 1) := by decide +kernel
theorem dX4_often_0 : decode cX4_often 0 = .ok (.aload_n 0, 1) := by decide +kernel
theorem dX4_often_1 : decode cX4_often 1 = .ok (.iload_n 1, 1) := by decide +kernel
theorem dX4_often_2 : decode cX4_often 2 = .ok (.iload_n 2, 1) := by decide +kernel
theorem dX4_often_3 : decode cX4_often 3 = .ok (.iload_n 3, 1) := by decide +kernel
theorem dX4_often_4 : decode cX4_often 4 = .ok (.invokevirtual 99, 3) := by decide +kernel
theorem dX4_often_7 : decode cX4_often 7 = .ok (.istore 5, 2) := by decide +kernel
theorem dX4_often_9 : decode cX4_often 9 = .ok (.iload 5, 2) := by decide +kernel
theorem dX4_often_11 : decode cX4_often 11 = .ok (.ifCond .ge 10, 3) := by decide +kernel
theorem dX4_often_14 : decode cX4_often 14 = .ok (.aload_n 0, 1) := by decide +kernel
theorem dX4_often_15 : decode cX4_often 15 = .ok (.iload 5, 2) := by decide +kernel
theorem dX4_often_17 : decode cX4_often 17 = .ok (.invokevirtual 86, 3) := by decide +kernel
theorem dX4_often_20 : decode cX4_often 20 = .ok (.ireturn, 1) := by decide +kernel
theorem dX4_often_21 : decode cX4_often 21 = .ok (.aload_n 0, 1) := by decide +kernel
theorem dX4_often_22 : decode cX4_often 22 = .ok (.iload_n 1, 1) := by decide +kernel
theorem dX4_often_23 : decode cX4_often 23 = .ok (.iload_n 2, 1) := by decide +kernel
theorem dX4_often_24 : decode cX4_often 24 = .ok (.iload_n 3, 1) := by decide +kernel
theorem dX4_often_25 : decode cX4_often 25 = .ok (.aload_n 0, 1) := by decide +kernel
theorem dX4_often_26 : decode cX4_often 26 = .ok (.getfield 58, 3) := by decide +kernel
theorem dX4_often_29 : decode cX4_often 29 = .ok (.invokevirtual 134, 3) := by decide +kernel
theorem dX4_often_32 : decode cX4_often 32 = .ok (.iload 4, 2) := by decide +kernel
theorem dX4_often_34 : decode cX4_often 34 = .ok (.istore 6, 2) := by decide +kernel
theorem dX4_often_36 : decode cX4_often 36 = .ok (.iload_n 3, 1) := by decide +kernel
theorem dX4_often_37 : decode cX4_often 37 = .ok (.iload_n 2, 1) := by decide +kernel
theorem dX4_often_38 : decode cX4_often 38 = .ok (.isub, 1) := by decide +kernel
theorem dX4_often_39 : decode cX4_often 39 = .ok (.istore 7, 2) := by decide +kernel
theorem dX4_often_41 : decode cX4_often 41 = .ok (.iload 7, 2) := by decide +kernel
theorem dX4_often_43 : decode cX4_often 43 = .ok (.ifCond .le 49, 3) := by decide +kernel
theorem dX4_often_46 : decode cX4_often 46 = .ok (.iconst 0, 1) := by decide +kernel
theorem dX4_often_47 : decode cX4_often 47 = .ok (.istore 8, 2) := by decide +kernel
theorem dX4_often_49 : decode cX4_often 49 = .ok (.iload 8, 2) := by decide +kernel
theorem dX4_often_51 : decode cX4_often 51 = .ok (.sipush 1024, 3) := by decide +kernel
theorem dX4_often_54 : decode cX4_often 54 = .ok (.if_icmp .ge 32, 3) := by decide +kernel
theorem dX4_often_57 : decode cX4_often 57 = .ok (.aload_n 0, 1) := by decide +kernel
theorem dX4_often_58 : decode cX4_often 58 = .ok (.getfield 58, 3) := by decide +kernel
theorem dX4_often_61 : decode cX4_often 61 = .ok (.iload 8, 2) := by decide +kernel
theorem dX4_often_63 : decode cX4_often 63 = .ok (.iaload, 1) := by decide +kernel
theorem dX4_often_64 : decode cX4_often 64 = .ok (.iload 7, 2) := by decide +kernel
theorem dX4_often_66 : decode cX4_often 66 = .ok (.if_icmp .ne 14, 3) := by decide +kernel
theorem dX4_often_69 : decode cX4_often 69 = .ok (.iload 6, 2) := by decide +kernel
theorem dX4_often_71 : decode cX4_often 71 = .ok (.ifCond .ne 6, 3) := by decide +kernel
theorem dX4_often_74 : decode cX4_often 74 = .ok (.iload 8, 2) := by decide +kernel
theorem dX4_often_76 : decode cX4_often 76 = .ok (.ireturn, 1) := by decide +kernel
theorem dX4_often_77 : decode cX4_often 77 = .ok (.iinc 6 (-1), 3) := by decide +kernel
theorem dX4_often_80 : decode cX4_often 80 = .ok (.iinc 8 1, 3) := by decide +kernel
theorem dX4_often_83 : decode cX4_often 83 = .ok (.goto (-34), 3) := by decide +kernel
theorem dX4_often_86 : decode cX4_often 86 = .ok (.iinc 7 (-1), 3) := by decide +kernel
theorem dX4_often_89 : decode cX4_often 89 = .ok (.goto (-48), 3) := by decide +kernel
theorem dX4_often_92 : decode cX4_often 92 = .ok (.aload_n 0, 1) := by decide +kernel
theorem dX4_often_93 : decode cX4_often 93 = .ok (.bipush (-6), 2) := by decide +kernel
theorem dX4_often_95 : decode cX4_often 95 = .ok (.invokevirtual 86, 3) := by decide +kernel
theorem dX4_often_98 : decode cX4_often 98 = .ok (.ireturn, 1) := by decide +kernel
theorem dX4_distinct_0 : decode cX4_distinct 0 = .ok (.aload_n 0, 1) := by decide +kernel
theorem dX4_distinct_1 : decode cX4_distinct 1 = .ok (.iload_n 1, 1) := by decide +kernel
theorem dX4_distinct_2 : decode cX4_distinct 2 = .ok (.iload_n 2, 1) := by decide +kernel
theorem dX4_distinct_3 : decode cX4_distinct 3 = .ok (.iload_n 3, 1) := by decide +kernel
theorem dX4_distinct_4 : decode cX4_distinct 4 = .ok (.invokevirtual 99, 3) := by decide +kernel
theorem dX4_distinct_7 : decode cX4_distinct 7 = .ok (.istore 4, 2) := by decide +kernel
theorem dX4_distinct_9 : decode cX4_distinct 9 = .ok (.iload 4, 2) := by decide +kernel
theorem dX4_distinct_11 : decode cX4_distinct 11 = .ok (.ifCond .ge 10, 3) := by decide +kernel
theorem dX4_distinct_14 : decode cX4_distinct 14 = .ok (.aload_n 0, 1) := by decide +kernel
theorem dX4_distinct_15 : decode cX4_distinct 15 = .ok (.iload 4, 2) := by decide +kernel
theorem dX4_distinct_17 : decode cX4_distinct 17 = .ok (.invokevirtual 86, 3) := by decide +kernel
theorem dX4_distinct_20 : decode cX4_distinct 20 = .ok (.ireturn, 1) := by decide +kernel
theorem dX4_distinct_21 : decode cX4_distinct 21 = .ok (.aload_n 0, 1) := by decide +kernel
theorem dX4_distinct_22 : decode cX4_distinct 22 = .ok (.iload_n 1, 1) := by decide +kernel
theorem dX4_distinct_23 : decode cX4_distinct 23 = .ok (.iload_n 2, 1) := by decide +kernel
theorem dX4_distinct_24 : decode cX4_distinct 24 = .ok (.iload_n 3, 1) := by decide +kernel
theorem dX4_distinct_25 : decode cX4_distinct 25 = .ok (.aload_n 0, 1) := by decide +kernel
theorem dX4_distinct_26 : decode cX4_distinct 26 = .ok (.getfield 58, 3) := by decide +kernel
theorem dX4_distinct_29 : decode cX4_distinct 29 = .ok (.invokevirtual 134, 3) := by decide +kernel
theorem dX4_distinct_32 : decode cX4_distinct 32 = .ok (.iconst 0, 1) := by decide +kernel
theorem dX4_distinct_33 : decode cX4_distinct 33 = .ok (.istore 5, 2) := by decide +kernel
theorem dX4_distinct_35 : decode cX4_distinct 35 = .ok (.iconst 0, 1) := by decide +kernel
theorem dX4_distinct_36 : decode cX4_distinct 36 = .ok (.istore 6, 2) := by decide +kernel
theorem dX4_distinct_38 : decode cX4_distinct 38 = .ok (.iload 6, 2) := by decide +kernel
theorem dX4_distinct_40 : decode cX4_distinct 40 = .ok (.sipush 1024, 3) := by decide +kernel
theorem dX4_distinct_43 : decode cX4_distinct 43 = .ok (.if_icmp .ge 29, 3) := by decide +kernel
theorem dX4_distinct_46 : decode cX4_distinct 46 = .ok (.iload 5, 2) := by decide +kernel
theorem dX4_distinct_48 : decode cX4_distinct 48 = .ok (.aload_n 0, 1) := by decide +kernel
theorem dX4_distinct_49 : decode cX4_distinct 49 = .ok (.getfield 58, 3) := by decide +kernel
theorem dX4_distinct_52 : decode cX4_distinct 52 = .ok (.iload 6, 2) := by decide +kernel
theorem dX4_distinct_54 : decode cX4_distinct 54 = .ok (.iaload, 1) := by decide +kernel
theorem dX4_distinct_55 : decode cX4_distinct 55 = .ok (.ifCond .le 7, 3) := by decide +kernel
theorem dX4_distinct_58 : decode cX4_distinct 58 = .ok (.iconst 1, 1) := by decide +kernel
theorem dX4_distinct_59 : decode cX4_distinct 59 = .ok (.goto 4, 3) := by decide +kernel
theorem dX4_distinct_62 : decode cX4_distinct 62 = .ok (.iconst 0, 1) := by decide +kernel
theorem dX4_distinct_63 : decode cX4_distinct 63 = .ok (.iadd, 1) := by decide +kernel
theorem dX4_distinct_64 : decode cX4_distinct 64 = .ok (.istore 5, 2) := by decide +kernel
theorem dX4_distinct_66 : decode cX4_distinct 66 = .ok (.iinc 6 1, 3) := by decide +kernel
theorem dX4_distinct_69 : decode cX4_distinct 69 = .ok (.goto (-31), 3) := by decide +kernel
theorem dX4_distinct_72 : decode cX4_distinct 72 = .ok (.iload 5, 2) := by decide +kernel
theorem dX4_distinct_74 : decode cX4_distinct 74 = .ok (.ireturn, 1) := by decide +kernel
theorem dX4_sum_0 : decode cX4_sum 0 = .ok (.aload_n 0, 1) := by decide +kernel
theorem dX4_sum_1 : decode cX4_sum 1 = .ok (.iload_n 1, 1) := by decide +kernel
theorem dX4_sum_2 : decode cX4_sum 2 = .ok (.iload_n 2, 1) := by decide +kernel
theorem dX4_sum_3 : decode cX4_sum 3 = .ok (.iload_n 3, 1) := by decide +kernel
theorem dX4_sum_4 : decode cX4_sum 4 = .ok (.invokevirtual 99, 3) := by decide +kernel
theorem dX4_sum_7 : decode cX4_sum 7 = .ok (.istore 5, 2) := by decide +kernel
theorem dX4_sum_9 : decode cX4_sum 9 = .ok (.iload 5, 2) := by decide +kernel
theorem dX4_sum_11 : decode cX4_sum 11 = .ok (.ifCond .ge 12, 3) := by decide +kernel
theorem dX4_sum_14 : decode cX4_sum 14 = .ok (.aload_n 0, 1) := by decide +kernel
theorem dX4_sum_15 : decode cX4_sum 15 = .ok (.iload 5, 2) := by decide +kernel
theorem dX4_sum_17 : decode cX4_sum 17 = .ok (.invokevirtual 86, 3) := by decide +kernel
theorem dX4_sum_20 : decode cX4_sum 20 = .ok (.pop, 1) := by decide +kernel
theorem dX4_sum_21 : decode cX4_sum 21 = .ok (.lconst 0, 1) := by decide +kernel
theorem dX4_sum_22 : decode cX4_sum 22 = .ok (.lreturn, 1) := by decide +kernel
theorem dX4_sum_23 : decode cX4_sum 23 = .ok (.lconst 0, 1) := by decide +kernel
theorem dX4_sum_24 : decode cX4_sum 24 = .ok (.lstore 6, 2) := by decide +kernel
theorem dX4_sum_26 : decode cX4_sum 26 = .ok (.iload_n 2, 1) := by decide +kernel
theorem dX4_sum_27 : decode cX4_sum 27 = .ok (.istore 8, 2) := by decide +kernel
theorem dX4_sum_29 : decode cX4_sum 29 = .ok (.iload 8, 2) := by decide +kernel
theorem dX4_sum_31 : decode cX4_sum 31 = .ok (.iload_n 3, 1) := by decide +kernel
theorem dX4_sum_32 : decode cX4_sum 32 = .ok (.if_icmp .ge 38, 3) := by decide +kernel
theorem dX4_sum_35 : decode cX4_sum 35 = .ok (.lload 6, 2) := by decide +kernel
theorem dX4_sum_37 : decode cX4_sum 37 = .ok (.aload_n 0, 1) := by decide +kernel
theorem dX4_sum_38 : decode cX4_sum 38 = .ok (.iload_n 1, 1) := by decide +kernel
theorem dX4_sum_39 : decode cX4_sum 39 = .ok (.iload 8, 2) := by decide +kernel
theorem dX4_sum_41 : decode cX4_sum 41 = .ok (.invokevirtual 103, 3) := by decide +kernel
theorem dX4_sum_44 : decode cX4_sum 44 = .ok (.iload 4, 2) := by decide +kernel
theorem dX4_sum_46 : decode cX4_sum 46 = .ok (.if_icmp .ge 14, 3) := by decide +kernel
theorem dX4_sum_49 : decode cX4_sum 49 = .ok (.aload_n 0, 1) := by decide +kernel
theorem dX4_sum_50 : decode cX4_sum 50 = .ok (.iload_n 1, 1) := by decide +kernel
theorem dX4_sum_51 : decode cX4_sum 51 = .ok (.iload 8, 2) := by decide +kernel
theorem dX4_sum_53 : decode cX4_sum 53 = .ok (.invokevirtual 106, 3) := by decide +kernel
theorem dX4_sum_56 : decode cX4_sum 56 = .ok (.i2l, 1) := by decide +kernel
theorem dX4_sum_57 : decode cX4_sum 57 = .ok (.goto 4, 3) := by decide +kernel
theorem dX4_sum_60 : decode cX4_sum 60 = .ok (.lconst 0, 1) := by decide +kernel
theorem dX4_sum_61 : decode cX4_sum 61 = .ok (.ladd, 1) := by decide +kernel
theorem dX4_sum_62 : decode cX4_sum 62 = .ok (.lstore 6, 2) := by decide +kernel
theorem dX4_sum_64 : decode cX4_sum 64 = .ok (.iinc 8 1, 3) := by decide +kernel
theorem dX4_sum_67 : decode cX4_sum 67 = .ok (.goto (-38), 3) := by decide +kernel
theorem dX4_sum_70 : decode cX4_sum 70 = .ok (.lload 6, 2) := by decide +kernel
theorem dX4_sum_72 : decode cX4_sum 72 = .ok (.lreturn, 1) := by decide +kernel
theorem dX4_differ_0 : decode cX4_differ 0 = .ok (.aload_n 0, 1) := by decide +kernel
theorem dX4_differ_1 : decode cX4_differ 1 = .ok (.iload_n 1, 1) := by decide +kernel
theorem dX4_differ_2 : decode cX4_differ 2 = .ok (.invokevirtual 72, 3) := by decide +kernel
theorem dX4_differ_5 : decode cX4_differ 5 = .ok (.istore 6, 2) := by decide +kernel
theorem dX4_differ_7 : decode cX4_differ 7 = .ok (.iload 6, 2) := by decide +kernel
theorem dX4_differ_9 : decode cX4_differ 9 = .ok (.ifCond .ge 8, 3) := by decide +kernel
theorem dX4_differ_12 : decode cX4_differ 12 = .ok (.iload 6, 2) := by decide +kernel
theorem dX4_differ_14 : decode cX4_differ 14 = .ok (.goto 9, 3) := by decide +kernel
theorem dX4_differ_17 : decode cX4_differ 17 = .ok (.aload_n 0, 1) := by decide +kernel
theorem dX4_differ_18 : decode cX4_differ 18 = .ok (.iload 4, 2) := by decide +kernel
theorem dX4_differ_20 : decode cX4_differ 20 = .ok (.invokevirtual 72, 3) := by decide +kernel
theorem dX4_differ_23 : decode cX4_differ 23 = .ok (.istore 6, 2) := by decide +kernel
theorem dX4_differ_25 : decode cX4_differ 25 = .ok (.iload 6, 2) := by decide +kernel
theorem dX4_differ_27 : decode cX4_differ 27 = .ok (.ifCond .ge 8, 3) := by decide +kernel
theorem dX4_differ_30 : decode cX4_differ 30 = .ok (.iload 6, 2) := by decide +kernel
theorem dX4_differ_32 : decode cX4_differ 32 = .ok (.goto 12, 3) := by decide +kernel
theorem dX4_differ_35 : decode cX4_differ 35 = .ok (.aload_n 0, 1) := by decide +kernel
theorem dX4_differ_36 : decode cX4_differ 36 = .ok (.iload_n 1, 1) := by decide +kernel
theorem dX4_differ_37 : decode cX4_differ 37 = .ok (.iload_n 2, 1) := by decide +kernel
theorem dX4_differ_38 : decode cX4_differ 38 = .ok (.i2l, 1) := by decide +kernel
theorem dX4_differ_39 : decode cX4_differ 39 = .ok (.iload_n 3, 1) := by decide +kernel
theorem dX4_differ_40 : decode cX4_differ 40 = .ok (.i2l, 1) := by decide +kernel
theorem dX4_differ_41 : decode cX4_differ 41 = .ok (.invokevirtual 75, 3) := by decide +kernel
theorem dX4_differ_44 : decode cX4_differ 44 = .ok (.istore 6, 2) := by decide +kernel
theorem dX4_differ_46 : decode cX4_differ 46 = .ok (.iload 6, 2) := by decide +kernel
theorem dX4_differ_48 : decode cX4_differ 48 = .ok (.ifCond .ge 8, 3) := by decide +kernel
theorem dX4_differ_51 : decode cX4_differ 51 = .ok (.iload 6, 2) := by decide +kernel
theorem dX4_differ_53 : decode cX4_differ 53 = .ok (.goto 21, 3) := by decide +kernel
theorem dX4_differ_56 : decode cX4_differ 56 = .ok (.aload_n 0, 1) := by decide +kernel
theorem dX4_differ_57 : decode cX4_differ 57 = .ok (.iload 4, 2) := by decide +kernel
theorem dX4_differ_59 : decode cX4_differ 59 = .ok (.iload 5, 2) := by decide +kernel
theorem dX4_differ_61 : decode cX4_differ 61 = .ok (.i2l, 1) := by decide +kernel
theorem dX4_differ_62 : decode cX4_differ 62 = .ok (.iload 5, 2) := by decide +kernel
theorem dX4_differ_64 : decode cX4_differ 64 = .ok (.i2l, 1) := by decide +kernel
theorem dX4_differ_65 : decode cX4_differ 65 = .ok (.iload_n 3, 1) := by decide +kernel
theorem dX4_differ_66 : decode cX4_differ 66 = .ok (.i2l, 1) := by decide +kernel
theorem dX4_differ_67 : decode cX4_differ 67 = .ok (.ladd, 1) := by decide +kernel
theorem dX4_differ_68 : decode cX4_differ 68 = .ok (.iload_n 2, 1) := by decide +kernel
theorem dX4_differ_69 : decode cX4_differ 69 = .ok (.i2l, 1) := by decide +kernel
theorem dX4_differ_70 : decode cX4_differ 70 = .ok (.lsub, 1) := by decide +kernel
theorem dX4_differ_71 : decode cX4_differ 71 = .ok (.invokevirtual 75, 3) := by decide +kernel
theorem dX4_differ_74 : decode cX4_differ 74 = .ok (.istore 6, 2) := by decide +kernel
theorem dX4_differ_76 : decode cX4_differ 76 = .ok (.iload 6, 2) := by decide +kernel
theorem dX4_differ_78 : decode cX4_differ 78 = .ok (.ifCond .ge 10, 3) := by decide +kernel
theorem dX4_differ_81 : decode cX4_differ 81 = .ok (.aload_n 0, 1) := by decide +kernel
theorem dX4_differ_82 : decode cX4_differ 82 = .ok (.iload 6, 2) := by decide +kernel
theorem dX4_differ_84 : decode cX4_differ 84 = .ok (.invokevirtual 86, 3) := by decide +kernel
theorem dX4_differ_87 : decode cX4_differ 87 = .ok (.ireturn, 1) := by decide +kernel
theorem dX4_differ_88 : decode cX4_differ 88 = .ok (.aload_n 0, 1) := by decide +kernel
theorem dX4_differ_89 : decode cX4_differ 89 = .ok (.iload_n 1, 1) := by decide +kernel
theorem dX4_differ_90 : decode cX4_differ 90 = .ok (.iload_n 2, 1) := by decide +kernel
theorem dX4_differ_91 : decode cX4_differ 91 = .ok (.iload_n 3, 1) := by decide +kernel
theorem dX4_differ_92 : decode cX4_differ 92 = .ok (.aload_n 0, 1) := by decide +kernel
theorem dX4_differ_93 : decode cX4_differ 93 = .ok (.getfield 58, 3) := by decide +kernel
theorem dX4_differ_96 : decode cX4_differ 96 = .ok (.invokevirtual 134, 3) := by decide +kernel
theorem dX4_differ_99 : decode cX4_differ 99 = .ok (.aload_n 0, 1) := by decide +kernel
theorem dX4_differ_100 : decode cX4_differ 100 = .ok (.iload 4, 2) := by decide +kernel
theorem dX4_differ_102 : decode cX4_differ 102 = .ok (.iload 5, 2) := by decide +kernel
theorem dX4_differ_104 : decode cX4_differ 104 = .ok (.iload 5, 2) := by decide +kernel
theorem dX4_differ_106 : decode cX4_differ 106 = .ok (.iload_n 3, 1) := by decide +kernel
theorem dX4_differ_107 : decode cX4_differ 107 = .ok (.iadd, 1) := by decide +kernel
theorem dX4_differ_108 : decode cX4_differ 108 = .ok (.iload_n 2, 1) := by decide +kernel
theorem dX4_differ_109 : decode cX4_differ 109 = .ok (.isub, 1) := by decide +kernel
theorem dX4_differ_110 : decode cX4_differ 110 = .ok (.aload_n 0, 1) := by decide +kernel
theorem dX4_differ_111 : decode cX4_differ 111 = .ok (.getfield 61, 3) := by decide +kernel
theorem dX4_differ_114 : decode cX4_differ 114 = .ok (.invokevirtual 134, 3) := by decide +kernel
theorem dX4_differ_117 : decode cX4_differ 117 = .ok (.iconst 0, 1) := by decide +kernel
theorem dX4_differ_118 : decode cX4_differ 118 = .ok (.istore 7, 2) := by decide +kernel
theorem dX4_differ_120 : decode cX4_differ 120 = .ok (.iload 7, 2) := by decide +kernel
theorem dX4_differ_122 : decode cX4_differ 122 = .ok (.sipush 1024, 3) := by decide +kernel
theorem dX4_differ_125 : decode cX4_differ 125 = .ok (.if_icmp .ge 29, 3) := by decide +kernel
theorem dX4_differ_128 : decode cX4_differ 128 = .ok (.aload_n 0, 1) := by decide +kernel
theorem dX4_differ_129 : decode cX4_differ 129 = .ok (.getfield 58, 3) := by decide +kernel
theorem dX4_differ_132 : decode cX4_differ 132 = .ok (.iload 7, 2) := by decide +kernel
theorem dX4_differ_134 : decode cX4_differ 134 = .ok (.iaload, 1) := by decide +kernel
theorem dX4_differ_135 : decode cX4_differ 135 = .ok (.aload_n 0, 1) := by decide +kernel
theorem dX4_differ_136 : decode cX4_differ 136 = .ok (.getfield 61, 3) := by decide +kernel
theorem dX4_differ_139 : decode cX4_differ 139 = .ok (.iload 7, 2) := by decide +kernel
theorem dX4_differ_141 : decode cX4_differ 141 = .ok (.iaload, 1) := by decide +kernel
theorem dX4_differ_142 : decode cX4_differ 142 = .ok (.if_icmp .eq 6, 3) := by decide +kernel
theorem dX4_differ_145 : decode cX4_differ 145 = .ok (.iload 7, 2) := by decide +kernel
theorem dX4_differ_147 : decode cX4_differ 147 = .ok (.ireturn, 1) := by decide +kernel
theorem dX4_differ_148 : decode cX4_differ 148 = .ok (.iinc 7 1, 3) := by decide +kernel
theorem dX4_differ_151 : decode cX4_differ 151 = .ok (.goto (-31), 3) := by decide +kernel
theorem dX4_differ_154 : decode cX4_differ 154 = .ok (.aload_n 0, 1) := by decide +kernel
theorem dX4_differ_155 : decode cX4_differ 155 = .ok (.bipush (-6), 2) := by decide +kernel
theorem dX4_differ_157 : decode cX4_differ 157 = .ok (.invokevirtual 86, 3) := by decide +kernel
theorem dX4_differ_160 : decode cX4_differ 160 = .ok (.ireturn, 1) := by decide +kernel
theorem dX4_first_0 : decode cX4_first 0 = .ok (.aload_n 0, 1) := by decide +kernel
theorem dX4_first_1 : decode cX4_first 1 = .ok (.iload_n 1, 1) := by decide +kernel
theorem dX4_first_2 : decode cX4_first 2 = .ok (.invokevirtual 72, 3) := by decide +kernel
theorem dX4_first_5 : decode cX4_first 5 = .ok (.istore_n 3, 1) := by decide +kernel
theorem dX4_first_6 : decode cX4_first 6 = .ok (.iload_n 3, 1) := by decide +kernel
theorem dX4_first_7 : decode cX4_first 7 = .ok (.ifCond .ge 7, 3) := by decide +kernel
theorem dX4_first_10 : decode cX4_first 10 = .ok (.iload_n 3, 1) := by decide +kernel
theorem dX4_first_11 : decode cX4_first 11 = .ok (.goto 8, 3) := by decide +kernel
theorem dX4_first_14 : decode cX4_first 14 = .ok (.aload_n 0, 1) := by decide +kernel
theorem dX4_first_15 : decode cX4_first 15 = .ok (.iload_n 2, 1) := by decide +kernel
theorem dX4_first_16 : decode cX4_first 16 = .ok (.invokevirtual 72, 3) := by decide +kernel
theorem dX4_first_19 : decode cX4_first 19 = .ok (.istore_n 3, 1) := by decide +kernel
theorem dX4_first_20 : decode cX4_first 20 = .ok (.iload_n 3, 1) := by decide +kernel
theorem dX4_first_21 : decode cX4_first 21 = .ok (.ifCond .ge 9, 3) := by decide +kernel
theorem dX4_first_24 : decode cX4_first 24 = .ok (.aload_n 0, 1) := by decide +kernel
theorem dX4_first_25 : decode cX4_first 25 = .ok (.iload_n 3, 1) := by decide +kernel
theorem dX4_first_26 : decode cX4_first 26 = .ok (.invokevirtual 86, 3) := by decide +kernel
theorem dX4_first_29 : decode cX4_first 29 = .ok (.ireturn, 1) := by decide +kernel
theorem dX4_first_30 : decode cX4_first 30 = .ok (.aload_n 0, 1) := by decide +kernel
theorem dX4_first_31 : decode cX4_first 31 = .ok (.iload_n 1, 1) := by decide +kernel
theorem dX4_first_32 : decode cX4_first 32 = .ok (.invokevirtual 68, 3) := by decide +kernel
theorem dX4_first_35 : decode cX4_first 35 = .ok (.aload_n 0, 1) := by decide +kernel
theorem dX4_first_36 : decode cX4_first 36 = .ok (.iload_n 2, 1) := by decide +kernel
theorem dX4_first_37 : decode cX4_first 37 = .ok (.invokevirtual 68, 3) := by decide +kernel
theorem dX4_first_40 : decode cX4_first 40 = .ok (.invokestatic 153, 3) := by decide +kernel
theorem dX4_first_43 : decode cX4_first 43 = .ok (.istore 4, 2) := by decide +kernel
theorem dX4_first_45 : decode cX4_first 45 = .ok (.iconst 0, 1) := by decide +kernel
theorem dX4_first_46 : decode cX4_first 46 = .ok (.istore 5, 2) := by decide +kernel
theorem dX4_first_48 : decode cX4_first 48 = .ok (.iload 5, 2) := by decide +kernel
theorem dX4_first_50 : decode cX4_first 50 = .ok (.iload 4, 2) := by decide +kernel
theorem dX4_first_52 : decode cX4_first 52 = .ok (.if_icmp .ge 46, 3) := by decide +kernel
theorem dX4_first_55 : decode cX4_first 55 = .ok (.aload_n 0, 1) := by decide +kernel
theorem dX4_first_56 : decode cX4_first 56 = .ok (.iload_n 1, 1) := by decide +kernel
theorem dX4_first_57 : decode cX4_first 57 = .ok (.iload 5, 2) := by decide +kernel
theorem dX4_first_59 : decode cX4_first 59 = .ok (.invokevirtual 103, 3) := by decide +kernel
theorem dX4_first_62 : decode cX4_first 62 = .ok (.aload_n 0, 1) := by decide +kernel
theorem dX4_first_63 : decode cX4_first 63 = .ok (.iload_n 2, 1) := by decide +kernel
theorem dX4_first_64 : decode cX4_first 64 = .ok (.iload 5, 2) := by decide +kernel
theorem dX4_first_66 : decode cX4_first 66 = .ok (.invokevirtual 103, 3) := by decide +kernel
theorem dX4_first_69 : decode cX4_first 69 = .ok (.if_icmp .ne 20, 3) := by decide +kernel
theorem dX4_first_72 : decode cX4_first 72 = .ok (.aload_n 0, 1) := by decide +kernel
theorem dX4_first_73 : decode cX4_first 73 = .ok (.iload_n 1, 1) := by decide +kernel
theorem dX4_first_74 : decode cX4_first 74 = .ok (.iload 5, 2) := by decide +kernel
theorem dX4_first_76 : decode cX4_first 76 = .ok (.invokevirtual 106, 3) := by decide +kernel
theorem dX4_first_79 : decode cX4_first 79 = .ok (.aload_n 0, 1) := by decide +kernel
theorem dX4_first_80 : decode cX4_first 80 = .ok (.iload_n 2, 1) := by decide +kernel
theorem dX4_first_81 : decode cX4_first 81 = .ok (.iload 5, 2) := by decide +kernel
theorem dX4_first_83 : decode cX4_first 83 = .ok (.invokevirtual 106, 3) := by decide +kernel
theorem dX4_first_86 : decode cX4_first 86 = .ok (.if_icmp .eq 6, 3) := by decide +kernel
theorem dX4_first_89 : decode cX4_first 89 = .ok (.iload 5, 2) := by decide +kernel
theorem dX4_first_91 : decode cX4_first 91 = .ok (.ireturn, 1) := by decide +kernel
theorem dX4_first_92 : decode cX4_first 92 = .ok (.iinc 5 1, 3) := by decide +kernel
theorem dX4_first_95 : decode cX4_first 95 = .ok (.goto (-47), 3) := by decide +kernel
theorem dX4_first_98 : decode cX4_first 98 = .ok (.aload_n 0, 1) := by decide +kernel
theorem dX4_first_99 : decode cX4_first 99 = .ok (.iload_n 1, 1) := by decide +kernel
theorem dX4_first_100 : decode cX4_first 100 = .ok (.invokevirtual 68, 3) := by decide +kernel
theorem dX4_first_103 : decode cX4_first 103 = .ok (.aload_n 0, 1) := by decide +kernel
theorem dX4_first_104 : decode cX4_first 104 = .ok (.iload_n 2, 1) := by decide +kernel
theorem dX4_first_105 : decode cX4_first 105 = .ok (.invokevirtual 68, 3) := by decide +kernel
theorem dX4_first_108 : decode cX4_first 108 = .ok (.if_icmp .ne 12, 3) := by decide +kernel
theorem dX4_first_111 : decode cX4_first 111 = .ok (.aload_n 0, 1) := by decide +kernel
theorem dX4_first_112 : decode cX4_first 112 = .ok (.bipush (-6), 2) := by decide +kernel
theorem dX4_first_114 : decode cX4_first 114 = .ok (.invokevirtual 86, 3) := by decide +kernel
theorem dX4_first_117 : decode cX4_first 117 = .ok (.goto 5, 3) := by decide +kernel
theorem dX4_first_120 : decode cX4_first 120 = .ok (.iload 4, 2) := by decide +kernel
theorem dX4_first_122 : decode cX4_first 122 = .ok (.ireturn, 1) := by decide +kernel
theorem dX4_step_0 : decode cX4_step 0 = .ok (.iload_n 1, 1) := by decide +kernel
theorem dX4_step_1 : decode cX4_step 1 = .ok (.ifCond .lt 20, 3) := by decide +kernel
theorem dX4_step_4 : decode cX4_step 4 = .ok (.iload_n 1, 1) := by decide +kernel
theorem dX4_step_5 : decode cX4_step 5 = .ok (.aload_n 0, 1) := by decide +kernel
theorem dX4_step_6 : decode cX4_step 6 = .ok (.getfield 138, 3) := by decide +kernel
theorem dX4_step_9 : decode cX4_step 9 = .ok (.if_icmp .ge 12, 3) := by decide +kernel
theorem dX4_step_12 : decode cX4_step 12 = .ok (.aload_n 0, 1) := by decide +kernel
theorem dX4_step_13 : decode cX4_step 13 = .ok (.getfield 46, 3) := by decide +kernel
theorem dX4_step_16 : decode cX4_step 16 = .ok (.iload_n 1, 1) := by decide +kernel
theorem dX4_step_17 : decode cX4_step 17 = .ok (.iaload, 1) := by decide +kernel
theorem dX4_step_18 : decode cX4_step 18 = .ok (.goto 9, 3) := by decide +kernel
theorem dX4_step_21 : decode cX4_step 21 = .ok (.aload_n 0, 1) := by decide +kernel
theorem dX4_step_22 : decode cX4_step 22 = .ok (.bipush (-6), 2) := by decide +kernel
theorem dX4_step_24 : decode cX4_step 24 = .ok (.invokevirtual 86, 3) := by decide +kernel
theorem dX4_step_27 : decode cX4_step 27 = .ok (.ireturn, 1) := by decide +kernel
theorem dX4_found_0 : decode cX4_found 0 = .ok (.iload_n 1, 1) := by decide +kernel
theorem dX4_found_1 : decode cX4_found 1 = .ok (.ifCond .ge 19, 3) := by decide +kernel
theorem dX4_found_4 : decode cX4_found 4 = .ok (.iload_n 1, 1) := by decide +kernel
theorem dX4_found_5 : decode cX4_found 5 = .ok (.bipush (-6), 2) := by decide +kernel
theorem dX4_found_7 : decode cX4_found 7 = .ok (.if_icmp .lt 13, 3) := by decide +kernel
theorem dX4_found_10 : decode cX4_found 10 = .ok (.aload_n 0, 1) := by decide +kernel
theorem dX4_found_11 : decode cX4_found 11 = .ok (.getfield 49, 3) := by decide +kernel
theorem dX4_found_14 : decode cX4_found 14 = .ok (.iload_n 1, 1) := by decide +kernel
theorem dX4_found_15 : decode cX4_found 15 = .ok (.ineg, 1) := by decide +kernel
theorem dX4_found_16 : decode cX4_found 16 = .ok (.iaload, 1) := by decide +kernel
theorem dX4_found_17 : decode cX4_found 17 = .ok (.goto 8, 3) := by decide +kernel
theorem dX4_found_20 : decode cX4_found 20 = .ok (.aload_n 0, 1) := by decide +kernel
theorem dX4_found_21 : decode cX4_found 21 = .ok (.iconst (-1), 1) := by decide +kernel
theorem dX4_found_22 : decode cX4_found 22 = .ok (.invokevirtual 86, 3) := by decide +kernel
theorem dX4_found_25 : decode cX4_found 25 = .ok (.ireturn, 1) := by decide +kernel
