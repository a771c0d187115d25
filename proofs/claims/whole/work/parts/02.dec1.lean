theorem dX3_init_0 : decode cX3_init 0 = .ok (.aload_n 0, 1) := by decide +kernel
theorem dX3_init_1 : decode cX3_init 1 = .ok (.invokespecial 1, 3) := by decide +kernel
theorem dX3_init_4 : decode cX3_init 4 = .ok (.aload_n 0, 1) := by decide +kernel
theorem dX3_init_5 : decode cX3_init 5 = .ok (.sipush 500, 3) := by decide +kernel
theorem dX3_init_8 : decode cX3_init 8 = .ok (.anewarray 9, 3) := by decide +kernel
theorem dX3_init_11 : decode cX3_init 11 = .ok (.putfield 11, 3) := by decide +kernel
theorem dX3_init_14 : decode cX3_init 14 = .ok (.aload_n 0, 1) := by decide +kernel
theorem dX3_init_15 : decode cX3_init 15 = .ok (.bipush 12, 2) := by decide +kernel
theorem dX3_init_17 : decode cX3_init 17 = .ok (.anewarray 9, 3) := by decide +kernel
theorem dX3_init_20 : decode cX3_init 20 = .ok (.putfield 15, 3) := by decide +kernel
theorem dX3_init_23 : decode cX3_init 23 = .ok (.aload_n 0, 1) := by decide +kernel
theorem dX3_init_24 : decode cX3_init 24 = .ok (.bipush 12, 2) := by decide +kernel
theorem dX3_init_26 : decode cX3_init 26 = .ok (.newarray .int, 2) := by decide +kernel
theorem dX3_init_28 : decode cX3_init 28 = .ok (.putfield 18, 3) := by decide +kernel
theorem dX3_init_31 : decode cX3_init 31 = .ok (.aload_n 0, 1) := by decide +kernel
theorem dX3_init_32 : decode cX3_init 32 = .ok (.new 22, 3) := by decide +kernel
theorem dX3_init_35 : decode cX3_init 35 = .ok (.dup, 1) := by decide +kernel
theorem dX3_init_36 : decode cX3_init 36 = .ok (.invokespecial 24, 3) := by decide +kernel
theorem dX3_init_39 : decode cX3_init 39 = .ok (.putfield 25, 3) := by decide +kernel
theorem dX3_init_42 : decode cX3_init 42 = .ok (.aload_n 0, 1) := by decide +kernel
theorem dX3_init_43 : decode cX3_init 43 = .ok (.new 22, 3) := by decide +kernel
theorem dX3_init_46 : decode cX3_init 46 = .ok (.dup, 1) := by decide +kernel
theorem dX3_init_47 : decode cX3_init 47 = .ok (.invokespecial 24, 3) := by decide +kernel
theorem dX3_init_50 : decode cX3_init 50 = .ok (.putfield 29, 3) := by decide +kernel
theorem dX3_init_53 : decode cX3_init 53 = .ok (.aload_n 0, 1) := by decide +kernel
theorem dX3_init_54 : decode cX3_init 54 = .ok (.new 32, 3) := by decide +kernel
theorem dX3_init_57 : decode cX3_init 57 = .ok (.dup, 1) := by decide +kernel
theorem dX3_init_58 : decode cX3_init 58 = .ok (.invokespecial 34, 3) := by decide +kernel
theorem dX3_init_61 : decode cX3_init 61 = .ok (.putfield 35, 3) := by decide +kernel
theorem dX3_init_64 : decode cX3_init 64 = .ok (.aload_n 0, 1) := by decide +kernel
theorem dX3_init_65 : decode cX3_init 65 = .ok (.bipush 10, 2) := by decide +kernel
theorem dX3_init_67 : decode cX3_init 67 = .ok (.newarray .int, 2) := by decide +kernel
theorem dX3_init_69 : decode cX3_init 69 = .ok (.putfield 39, 3) := by decide +kernel
theorem dX3_init_72 : decode cX3_init 72 = .ok (.aload_n 0, 1) := by decide +kernel
theorem dX3_init_73 : decode cX3_init 73 = .ok (.bipush 7, 2) := by decide +kernel
theorem dX3_init_75 : decode cX3_init 75 = .ok (.newarray .int, 2) := by decide +kernel
theorem dX3_init_77 : decode cX3_init 77 = .ok (.putfield 42, 3) := by decide +kernel
theorem dX3_init_80 : decode cX3_init 80 = .ok (.new 9, 3) := by decide +kernel
theorem dX3_init_83 : decode cX3_init 83 = .ok (.dup, 1) := by decide +kernel
theorem dX3_init_84 : decode cX3_init 84 = .ok (.iconst 0, 1) := by decide +kernel
theorem dX3_init_85 : decode cX3_init 85 = .ok (.aconst_null, 1) := by decide +kernel
theorem dX3_init_86 : decode cX3_init 86 = .ok (.iconst 0, 1) := by decide +kernel
theorem dX3_init_87 : decode cX3_init 87 = .ok (.iconst 0, 1) := by decide +kernel
theorem dX3_init_88 : decode cX3_init 88 = .ok (.invokespecial 45, 3) := by decide +kernel
theorem dX3_init_91 : decode cX3_init 91 = .ok (.astore_n 1, 1) := by decide +kernel
theorem dX3_init_92 : decode cX3_init 92 = .ok (.aload_n 0, 1) := by decide +kernel
theorem dX3_init_93 : decode cX3_init 93 = .ok (.getfield 11, 3) := by decide +kernel
theorem dX3_init_96 : decode cX3_init 96 = .ok (.iconst 0, 1) := by decide +kernel
theorem dX3_init_97 : decode cX3_init 97 = .ok (.aload_n 1, 1) := by decide +kernel
theorem dX3_init_98 : decode cX3_init 98 = .ok (.aastore, 1) := by decide +kernel
theorem dX3_init_99 : decode cX3_init 99 = .ok (.aload_n 0, 1) := by decide +kernel
theorem dX3_init_100 : decode cX3_init 100 = .ok (.iconst 1, 1) := by decide +kernel
theorem dX3_init_101 : decode cX3_init 101 = .ok (.putfield 48, 3) := by decide +kernel
theorem dX3_init_104 : decode cX3_init 104 = .ok (.aload_n 0, 1) := by decide +kernel
theorem dX3_init_105 : decode cX3_init 105 = .ok (.getfield 15, 3) := by decide +kernel
theorem dX3_init_108 : decode cX3_init 108 = .ok (.iconst 0, 1) := by decide +kernel
theorem dX3_init_109 : decode cX3_init 109 = .ok (.aload_n 1, 1) := by decide +kernel
theorem dX3_init_110 : decode cX3_init 110 = .ok (.aastore, 1) := by decide +kernel
theorem dX3_init_111 : decode cX3_init 111 = .ok (.aload_n 0, 1) := by decide +kernel
theorem dX3_init_112 : decode cX3_init 112 = .ok (.getfield 18, 3) := by decide +kernel
theorem dX3_init_115 : decode cX3_init 115 = .ok (.iconst 0, 1) := by decide +kernel
theorem dX3_init_116 : decode cX3_init 116 = .ok (.iconst 0, 1) := by decide +kernel
theorem dX3_init_117 : decode cX3_init 117 = .ok (.iastore, 1) := by decide +kernel
theorem dX3_init_118 : decode cX3_init 118 = .ok (.return_, 1) := by decide +kernel
theorem dX3_push_0 : decode cX3_push 0 = .ok (.aload_n 0, 1) := by decide +kernel
theorem dX3_push_1 : decode cX3_push 1 = .ok (.iload_n 1, 1) := by decide +kernel
theorem dX3_push_2 : decode cX3_push 2 = .ok (.invokevirtual 52, 3) := by decide +kernel
theorem dX3_push_5 : decode cX3_push 5 = .ok (.istore 5, 2) := by decide +kernel
theorem dX3_push_7 : decode cX3_push 7 = .ok (.iload 5, 2) := by decide +kernel
theorem dX3_push_9 : decode cX3_push 9 = .ok (.ifCond .eq 10, 3) := by decide +kernel
theorem dX3_push_12 : decode cX3_push 12 = .ok (.aload_n 0, 1) := by decide +kernel
theorem dX3_push_13 : decode cX3_push 13 = .ok (.iload 5, 2) := by decide +kernel
theorem dX3_push_15 : decode cX3_push 15 = .ok (.invokevirtual 56, 3) := by decide +kernel
theorem dX3_push_18 : decode cX3_push 18 = .ok (.ireturn, 1) := by decide +kernel
theorem dX3_push_19 : decode cX3_push 19 = .ok (.iload_n 2, 1) := by decide +kernel
theorem dX3_push_20 : decode cX3_push 20 = .ok (.invokestatic 59, 3) := by decide +kernel
theorem dX3_push_23 : decode cX3_push 23 = .ok (.ifCond .eq 11, 3) := by decide +kernel
theorem dX3_push_26 : decode cX3_push 26 = .ok (.iload 4, 2) := by decide +kernel
theorem dX3_push_28 : decode cX3_push 28 = .ok (.invokestatic 63, 3) := by decide +kernel
theorem dX3_push_31 : decode cX3_push 31 = .ok (.ifCond .ne 9, 3) := by decide +kernel
theorem dX3_push_34 : decode cX3_push 34 = .ok (.aload_n 0, 1) := by decide +kernel
theorem dX3_push_35 : decode cX3_push 35 = .ok (.iconst (-1), 1) := by decide +kernel
theorem dX3_push_36 : decode cX3_push 36 = .ok (.invokevirtual 56, 3) := by decide +kernel
theorem dX3_push_39 : decode cX3_push 39 = .ok (.ireturn, 1) := by decide +kernel
theorem dX3_push_40 : decode cX3_push 40 = .ok (.aload_n 0, 1) := by decide +kernel
theorem dX3_push_41 : decode cX3_push 41 = .ok (.getfield 15, 3) := by decide +kernel
theorem dX3_push_44 : decode cX3_push 44 = .ok (.iload_n 1, 1) := by decide +kernel
theorem dX3_push_45 : decode cX3_push 45 = .ok (.aaload, 1) := by decide +kernel
theorem dX3_push_46 : decode cX3_push 46 = .ok (.astore 6, 2) := by decide +kernel
theorem dX3_push_48 : decode cX3_push 48 = .ok (.aload 6, 2) := by decide +kernel
theorem dX3_push_50 : decode cX3_push 50 = .ok (.getfield 66, 3) := by decide +kernel
theorem dX3_push_53 : decode cX3_push 53 = .ok (.sipush 400, 3) := by decide +kernel
theorem dX3_push_56 : decode cX3_push 56 = .ok (.if_icmp .ge 11, 3) := by decide +kernel
theorem dX3_push_59 : decode cX3_push 59 = .ok (.aload_n 0, 1) := by decide +kernel
theorem dX3_push_60 : decode cX3_push 60 = .ok (.iconst 1, 1) := by decide +kernel
theorem dX3_push_61 : decode cX3_push 61 = .ok (.invokevirtual 69, 3) := by decide +kernel
theorem dX3_push_64 : decode cX3_push 64 = .ok (.ifCond .ne 10, 3) := by decide +kernel
theorem dX3_push_67 : decode cX3_push 67 = .ok (.aload_n 0, 1) := by decide +kernel
theorem dX3_push_68 : decode cX3_push 68 = .ok (.bipush (-5), 2) := by decide +kernel
theorem dX3_push_70 : decode cX3_push 70 = .ok (.invokevirtual 56, 3) := by decide +kernel
theorem dX3_push_73 : decode cX3_push 73 = .ok (.ireturn, 1) := by decide +kernel
theorem dX3_push_74 : decode cX3_push 74 = .ok (.aload_n 0, 1) := by decide +kernel
theorem dX3_push_75 : decode cX3_push 75 = .ok (.aload 6, 2) := by decide +kernel
theorem dX3_push_77 : decode cX3_push 77 = .ok (.aload 6, 2) := by decide +kernel
theorem dX3_push_79 : decode cX3_push 79 = .ok (.getfield 66, 3) := by decide +kernel
theorem dX3_push_82 : decode cX3_push 82 = .ok (.iconst 1, 1) := by decide +kernel
theorem dX3_push_83 : decode cX3_push 83 = .ok (.invokevirtual 72, 3) := by decide +kernel
theorem dX3_push_86 : decode cX3_push 86 = .ok (.astore 7, 2) := by decide +kernel
theorem dX3_push_88 : decode cX3_push 88 = .ok (.aload 7, 2) := by decide +kernel
theorem dX3_push_90 : decode cX3_push 90 = .ok (.iconst 0, 1) := by decide +kernel
theorem dX3_push_91 : decode cX3_push 91 = .ok (.iload_n 2, 1) := by decide +kernel
theorem dX3_push_92 : decode cX3_push 92 = .ok (.iload_n 3, 1) := by decide +kernel
theorem dX3_push_93 : decode cX3_push 93 = .ok (.invokevirtual 76, 3) := by decide +kernel
theorem dX3_push_96 : decode cX3_push 96 = .ok (.aload_n 0, 1) := by decide +kernel
theorem dX3_push_97 : decode cX3_push 97 = .ok (.aload 7, 2) := by decide +kernel
theorem dX3_push_99 : decode cX3_push 99 = .ok (.iload 4, 2) := by decide +kernel
theorem dX3_push_101 : decode cX3_push 101 = .ok (.invokevirtual 80, 3) := by decide +kernel
theorem dX3_push_104 : decode cX3_push 104 = .ok (.ireturn, 1) := by decide +kernel
theorem dX3_cut_0 : decode cX3_cut 0 = .ok (.aload_n 0, 1) := by decide +kernel
theorem dX3_cut_1 : decode cX3_cut 1 = .ok (.iload_n 1, 1) := by decide +kernel
theorem dX3_cut_2 : decode cX3_cut 2 = .ok (.invokevirtual 52, 3) := by decide +kernel
theorem dX3_cut_5 : decode cX3_cut 5 = .ok (.istore 4, 2) := by decide +kernel
theorem dX3_cut_7 : decode cX3_cut 7 = .ok (.iload 4, 2) := by decide +kernel
theorem dX3_cut_9 : decode cX3_cut 9 = .ok (.ifCond .eq 10, 3) := by decide +kernel
theorem dX3_cut_12 : decode cX3_cut 12 = .ok (.aload_n 0, 1) := by decide +kernel
theorem dX3_cut_13 : decode cX3_cut 13 = .ok (.iload 4, 2) := by decide +kernel
theorem dX3_cut_15 : decode cX3_cut 15 = .ok (.invokevirtual 56, 3) := by decide +kernel
theorem dX3_cut_18 : decode cX3_cut 18 = .ok (.ireturn, 1) := by decide +kernel
theorem dX3_cut_19 : decode cX3_cut 19 = .ok (.iload_n 2, 1) := by decide +kernel
theorem dX3_cut_20 : decode cX3_cut 20 = .ok (.ifCond .ge 10, 3) := by decide +kernel
theorem dX3_cut_23 : decode cX3_cut 23 = .ok (.aload_n 0, 1) := by decide +kernel
theorem dX3_cut_24 : decode cX3_cut 24 = .ok (.bipush (-4), 2) := by decide +kernel
theorem dX3_cut_26 : decode cX3_cut 26 = .ok (.invokevirtual 56, 3) := by decide +kernel
theorem dX3_cut_29 : decode cX3_cut 29 = .ok (.ireturn, 1) := by decide +kernel
theorem dX3_cut_30 : decode cX3_cut 30 = .ok (.aload_n 0, 1) := by decide +kernel
theorem dX3_cut_31 : decode cX3_cut 31 = .ok (.getfield 15, 3) := by decide +kernel
theorem dX3_cut_34 : decode cX3_cut 34 = .ok (.iload_n 1, 1) := by decide +kernel
theorem dX3_cut_35 : decode cX3_cut 35 = .ok (.aaload, 1) := by decide +kernel
theorem dX3_cut_36 : decode cX3_cut 36 = .ok (.astore 5, 2) := by decide +kernel
theorem dX3_cut_38 : decode cX3_cut 38 = .ok (.iload_n 2, 1) := by decide +kernel
theorem dX3_cut_39 : decode cX3_cut 39 = .ok (.aload 5, 2) := by decide +kernel
theorem dX3_cut_41 : decode cX3_cut 41 = .ok (.getfield 66, 3) := by decide +kernel
theorem dX3_cut_44 : decode cX3_cut 44 = .ok (.if_icmp .gt 10, 3) := by decide +kernel
theorem dX3_cut_47 : decode cX3_cut 47 = .ok (.iload_n 3, 1) := by decide +kernel
theorem dX3_cut_48 : decode cX3_cut 48 = .ok (.invokestatic 63, 3) := by decide +kernel
theorem dX3_cut_51 : decode cX3_cut 51 = .ok (.ifCond .ne 9, 3) := by decide +kernel
theorem dX3_cut_54 : decode cX3_cut 54 = .ok (.aload_n 0, 1) := by decide +kernel
theorem dX3_cut_55 : decode cX3_cut 55 = .ok (.iconst (-1), 1) := by decide +kernel
theorem dX3_cut_56 : decode cX3_cut 56 = .ok (.invokevirtual 56, 3) := by decide +kernel
theorem dX3_cut_59 : decode cX3_cut 59 = .ok (.ireturn, 1) := by decide +kernel
theorem dX3_cut_60 : decode cX3_cut 60 = .ok (.aload_n 0, 1) := by decide +kernel
theorem dX3_cut_61 : decode cX3_cut 61 = .ok (.iconst 0, 1) := by decide +kernel
theorem dX3_cut_62 : decode cX3_cut 62 = .ok (.invokevirtual 69, 3) := by decide +kernel
theorem dX3_cut_65 : decode cX3_cut 65 = .ok (.ifCond .ne 10, 3) := by decide +kernel
theorem dX3_cut_68 : decode cX3_cut 68 = .ok (.aload_n 0, 1) := by decide +kernel
theorem dX3_cut_69 : decode cX3_cut 69 = .ok (.bipush (-5), 2) := by decide +kernel
theorem dX3_cut_71 : decode cX3_cut 71 = .ok (.invokevirtual 56, 3) := by decide +kernel
theorem dX3_cut_74 : decode cX3_cut 74 = .ok (.ireturn, 1) := by decide +kernel
theorem dX3_cut_75 : decode cX3_cut 75 = .ok (.aload_n 0, 1) := by decide +kernel
theorem dX3_cut_76 : decode cX3_cut 76 = .ok (.aload_n 0, 1) := by decide +kernel
theorem dX3_cut_77 : decode cX3_cut 77 = .ok (.aload 5, 2) := by decide +kernel
theorem dX3_cut_79 : decode cX3_cut 79 = .ok (.iload_n 2, 1) := by decide +kernel
theorem dX3_cut_80 : decode cX3_cut 80 = .ok (.iconst 0, 1) := by decide +kernel
theorem dX3_cut_81 : decode cX3_cut 81 = .ok (.invokevirtual 72, 3) := by decide +kernel
theorem dX3_cut_84 : decode cX3_cut 84 = .ok (.iload_n 3, 1) := by decide +kernel
theorem dX3_cut_85 : decode cX3_cut 85 = .ok (.invokevirtual 80, 3) := by decide +kernel
theorem dX3_cut_88 : decode cX3_cut 88 = .ok (.ireturn, 1) := by decide +kernel
theorem dX3_join_0 : decode cX3_join 0 = .ok (.aload_n 0, 1) := by decide +kernel
theorem dX3_join_1 : decode cX3_join 1 = .ok (.iload_n 1, 1) := by decide +kernel
theorem dX3_join_2 : decode cX3_join 2 = .ok (.invokevirtual 52, 3) := by decide +kernel
theorem dX3_join_5 : decode cX3_join 5 = .ok (.istore 6, 2) := by decide +kernel
theorem dX3_join_7 : decode cX3_join 7 = .ok (.iload 6, 2) := by decide +kernel
theorem dX3_join_9 : decode cX3_join 9 = .ok (.ifCond .ne 13, 3) := by decide +kernel
theorem dX3_join_12 : decode cX3_join 12 = .ok (.aload_n 0, 1) := by decide +kernel
theorem dX3_join_13 : decode cX3_join 13 = .ok (.iload_n 2, 1) := by decide +kernel
theorem dX3_join_14 : decode cX3_join 14 = .ok (.iload_n 3, 1) := by decide +kernel
theorem dX3_join_15 : decode cX3_join 15 = .ok (.iload 4, 2) := by decide +kernel
theorem dX3_join_17 : decode cX3_join 17 = .ok (.invokevirtual 84, 3) := by decide +kernel
theorem dX3_join_20 : decode cX3_join 20 = .ok (.istore 6, 2) := by decide +kernel
theorem dX3_join_22 : decode cX3_join 22 = .ok (.iload 6, 2) := by decide +kernel
theorem dX3_join_24 : decode cX3_join 24 = .ok (.ifCond .eq 10, 3) := by decide +kernel
theorem dX3_join_27 : decode cX3_join 27 = .ok (.aload_n 0, 1) := by decide +kernel
theorem dX3_join_28 : decode cX3_join 28 = .ok (.iload 6, 2) := by decide +kernel
theorem dX3_join_30 : decode cX3_join 30 = .ok (.invokevirtual 56, 3) := by decide +kernel
theorem dX3_join_33 : decode cX3_join 33 = .ok (.ireturn, 1) := by decide +kernel
theorem dX3_join_34 : decode cX3_join 34 = .ok (.iload 5, 2) := by decide +kernel
theorem dX3_join_36 : decode cX3_join 36 = .ok (.invokestatic 63, 3) := by decide +kernel
theorem dX3_join_39 : decode cX3_join 39 = .ok (.ifCond .ne 9, 3) := by decide +kernel
theorem dX3_join_42 : decode cX3_join 42 = .ok (.aload_n 0, 1) := by decide +kernel
theorem dX3_join_43 : decode cX3_join 43 = .ok (.iconst (-1), 1) := by decide +kernel
theorem dX3_join_44 : decode cX3_join 44 = .ok (.invokevirtual 56, 3) := by decide +kernel
theorem dX3_join_47 : decode cX3_join 47 = .ok (.ireturn, 1) := by decide +kernel
theorem dX3_join_48 : decode cX3_join 48 = .ok (.aload_n 0, 1) := by decide +kernel
theorem dX3_join_49 : decode cX3_join 49 = .ok (.getfield 15, 3) := by decide +kernel
theorem dX3_join_52 : decode cX3_join 52 = .ok (.iload_n 1, 1) := by decide +kernel
theorem dX3_join_53 : decode cX3_join 53 = .ok (.aaload, 1) := by decide +kernel
theorem dX3_join_54 : decode cX3_join 54 = .ok (.astore 7, 2) := by decide +kernel
theorem dX3_join_56 : decode cX3_join 56 = .ok (.iload 4, 2) := by decide +kernel
theorem dX3_join_58 : decode cX3_join 58 = .ok (.iload_n 3, 1) := by decide +kernel
theorem dX3_join_59 : decode cX3_join 59 = .ok (.isub, 1) := by decide +kernel
theorem dX3_join_60 : decode cX3_join 60 = .ok (.istore 8, 2) := by decide +kernel
theorem dX3_join_62 : decode cX3_join 62 = .ok (.iload 8, 2) := by decide +kernel
theorem dX3_join_64 : decode cX3_join 64 = .ok (.sipush 400, 3) := by decide +kernel
theorem dX3_join_67 : decode cX3_join 67 = .ok (.aload 7, 2) := by decide +kernel
theorem dX3_join_69 : decode cX3_join 69 = .ok (.getfield 66, 3) := by decide +kernel
theorem dX3_join_72 : decode cX3_join 72 = .ok (.isub, 1) := by decide +kernel
theorem dX3_join_73 : decode cX3_join 73 = .ok (.if_icmp .gt 12, 3) := by decide +kernel
theorem dX3_join_76 : decode cX3_join 76 = .ok (.aload_n 0, 1) := by decide +kernel
theorem dX3_join_77 : decode cX3_join 77 = .ok (.iload 8, 2) := by decide +kernel
theorem dX3_join_79 : decode cX3_join 79 = .ok (.invokevirtual 69, 3) := by decide +kernel
theorem dX3_join_82 : decode cX3_join 82 = .ok (.ifCond .ne 10, 3) := by decide +kernel
theorem dX3_join_85 : decode cX3_join 85 = .ok (.aload_n 0, 1) := by decide +kernel
theorem dX3_join_86 : decode cX3_join 86 = .ok (.bipush (-5), 2) := by decide +kernel
theorem dX3_join_88 : decode cX3_join 88 = .ok (.invokevirtual 56, 3) := by decide +kernel
theorem dX3_join_91 : decode cX3_join 91 = .ok (.ireturn, 1) := by decide +kernel
theorem dX3_join_92 : decode cX3_join 92 = .ok (.aload_n 0, 1) := by decide +kernel
theorem dX3_join_93 : decode cX3_join 93 = .ok (.getfield 25, 3) := by decide +kernel
theorem dX3_join_96 : decode cX3_join 96 = .ok (.aload_n 0, 1) := by decide +kernel
theorem dX3_join_97 : decode cX3_join 97 = .ok (.getfield 15, 3) := by decide +kernel
theorem dX3_join_100 : decode cX3_join 100 = .ok (.iload_n 2, 1) := by decide +kernel
theorem dX3_join_101 : decode cX3_join 101 = .ok (.aaload, 1) := by decide +kernel
theorem dX3_join_102 : decode cX3_join 102 = .ok (.invokevirtual 88, 3) := by decide +kernel
theorem dX3_join_105 : decode cX3_join 105 = .ok (.aload_n 0, 1) := by decide +kernel
theorem dX3_join_106 : decode cX3_join 106 = .ok (.aload 7, 2) := by decide +kernel
theorem dX3_join_108 : decode cX3_join 108 = .ok (.aload 7, 2) := by decide +kernel
theorem dX3_join_110 : decode cX3_join 110 = .ok (.getfield 66, 3) := by decide +kernel
theorem dX3_join_113 : decode cX3_join 113 = .ok (.iload 8, 2) := by decide +kernel
theorem dX3_join_115 : decode cX3_join 115 = .ok (.invokevirtual 72, 3) := by decide +kernel
theorem dX3_join_118 : decode cX3_join 118 = .ok (.astore 9, 2) := by decide +kernel
theorem dX3_join_120 : decode cX3_join 120 = .ok (.iconst 0, 1) := by decide +kernel
theorem dX3_join_121 : decode cX3_join 121 = .ok (.istore 10, 2) := by decide +kernel
theorem dX3_join_123 : decode cX3_join 123 = .ok (.iload 10, 2) := by decide +kernel
theorem dX3_join_125 : decode cX3_join 125 = .ok (.iload 8, 2) := by decide +kernel
theorem dX3_join_127 : decode cX3_join 127 = .ok (.if_icmp .ge 40, 3) := by decide +kernel
theorem dX3_join_130 : decode cX3_join 130 = .ok (.aload 9, 2) := by decide +kernel
theorem dX3_join_132 : decode cX3_join 132 = .ok (.iload 10, 2) := by decide +kernel
theorem dX3_join_134 : decode cX3_join 134 = .ok (.aload_n 0, 1) := by decide +kernel
theorem dX3_join_135 : decode cX3_join 135 = .ok (.getfield 25, 3) := by decide +kernel
theorem dX3_join_138 : decode cX3_join 138 = .ok (.getfield 92, 3) := by decide +kernel
theorem dX3_join_141 : decode cX3_join 141 = .ok (.iload_n 3, 1) := by decide +kernel
theorem dX3_join_142 : decode cX3_join 142 = .ok (.iload 10, 2) := by decide +kernel
theorem dX3_join_144 : decode cX3_join 144 = .ok (.iadd, 1) := by decide +kernel
theorem dX3_join_145 : decode cX3_join 145 = .ok (.iaload, 1) := by decide +kernel
theorem dX3_join_146 : decode cX3_join 146 = .ok (.aload_n 0, 1) := by decide +kernel
theorem dX3_join_147 : decode cX3_join 147 = .ok (.getfield 25, 3) := by decide +kernel
theorem dX3_join_150 : decode cX3_join 150 = .ok (.getfield 95, 3) := by decide +kernel
theorem dX3_join_153 : decode cX3_join 153 = .ok (.iload_n 3, 1) := by decide +kernel
theorem dX3_join_154 : decode cX3_join 154 = .ok (.iload 10, 2) := by decide +kernel
theorem dX3_join_156 : decode cX3_join 156 = .ok (.iadd, 1) := by decide +kernel
theorem dX3_join_157 : decode cX3_join 157 = .ok (.iaload, 1) := by decide +kernel
theorem dX3_join_158 : decode cX3_join 158 = .ok (.invokevirtual 76, 3) := by decide +kernel
theorem dX3_join_161 : decode cX3_join 161 = .ok (.iinc 10 1, 3) := by decide +kernel
theorem dX3_join_164 : decode cX3_join 164 = .ok (.goto (-41), 3) := by decide +kernel
theorem dX3_join_167 : decode cX3_join 167 = .ok (.aload_n 0, 1) := by decide +kernel
theorem dX3_join_168 : decode cX3_join 168 = .ok (.aload 9, 2) := by decide +kernel
theorem dX3_join_170 : decode cX3_join 170 = .ok (.iload 5, 2) := by decide +kernel
theorem dX3_join_172 : decode cX3_join 172 = .ok (.invokevirtual 80, 3) := by decide +kernel
theorem dX3_join_175 : decode cX3_join 175 = .ok (.ireturn, 1) := by decide +kernel
theorem dX3_turn_0 : decode cX3_turn 0 = .ok (.aload_n 0, 1) := by decide +kernel
theorem dX3_turn_1 : decode cX3_turn 1 = .ok (.iload_n 1, 1) := by decide +kernel
theorem dX3_turn_2 : decode cX3_turn 2 = .ok (.invokevirtual 52, 3) := by decide +kernel
theorem dX3_turn_5 : decode cX3_turn 5 = .ok (.istore 5, 2) := by decide +kernel
theorem dX3_turn_7 : decode cX3_turn 7 = .ok (.iload 5, 2) := by decide +kernel
theorem dX3_turn_9 : decode cX3_turn 9 = .ok (.ifCond .eq 10, 3) := by decide +kernel
theorem dX3_turn_12 : decode cX3_turn 12 = .ok (.aload_n 0, 1) := by decide +kernel
theorem dX3_turn_13 : decode cX3_turn 13 = .ok (.iload 5, 2) := by decide +kernel
theorem dX3_turn_15 : decode cX3_turn 15 = .ok (.invokevirtual 56, 3) := by decide +kernel
theorem dX3_turn_18 : decode cX3_turn 18 = .ok (.ireturn, 1) := by decide +kernel
theorem dX3_turn_19 : decode cX3_turn 19 = .ok (.aload_n 0, 1) := by decide +kernel
theorem dX3_turn_20 : decode cX3_turn 20 = .ok (.getfield 15, 3) := by decide +kernel
theorem dX3_turn_23 : decode cX3_turn 23 = .ok (.iload_n 1, 1) := by decide +kernel
theorem dX3_turn_24 : decode cX3_turn 24 = .ok (.aaload, 1) := by decide +kernel
theorem dX3_turn_25 : decode cX3_turn 25 = .ok (.astore 6, 2) := by decide +kernel
theorem dX3_turn_27 : decode cX3_turn 27 = .ok (.iload_n 2, 1) := by decide +kernel
theorem dX3_turn_28 : decode cX3_turn 28 = .ok (.ifCond .lt 19, 3) := by decide +kernel
theorem dX3_turn_31 : decode cX3_turn 31 = .ok (.iload_n 2, 1) := by decide +kernel
theorem dX3_turn_32 : decode cX3_turn 32 = .ok (.aload 6, 2) := by decide +kernel
theorem dX3_turn_34 : decode cX3_turn 34 = .ok (.getfield 66, 3) := by decide +kernel
theorem dX3_turn_37 : decode cX3_turn 37 = .ok (.if_icmp .ge 10, 3) := by decide +kernel
theorem dX3_turn_40 : decode cX3_turn 40 = .ok (.iload_n 3, 1) := by decide +kernel
theorem dX3_turn_41 : decode cX3_turn 41 = .ok (.invokestatic 59, 3) := by decide +kernel
theorem dX3_turn_44 : decode cX3_turn 44 = .ok (.ifCond .ne 9, 3) := by decide +kernel
theorem dX3_turn_47 : decode cX3_turn 47 = .ok (.aload_n 0, 1) := by decide +kernel
theorem dX3_turn_48 : decode cX3_turn 48 = .ok (.iconst (-1), 1) := by decide +kernel
theorem dX3_turn_49 : decode cX3_turn 49 = .ok (.invokevirtual 56, 3) := by decide +kernel
theorem dX3_turn_52 : decode cX3_turn 52 = .ok (.ireturn, 1) := by decide +kernel
theorem dX3_turn_53 : decode cX3_turn 53 = .ok (.aload 6, 2) := by decide +kernel
theorem dX3_turn_55 : decode cX3_turn 55 = .ok (.getfield 66, 3) := by decide +kernel
theorem dX3_turn_58 : decode cX3_turn 58 = .ok (.iload_n 2, 1) := by decide +kernel
theorem dX3_turn_59 : decode cX3_turn 59 = .ok (.isub, 1) := by decide +kernel
theorem dX3_turn_60 : decode cX3_turn 60 = .ok (.istore 7, 2) := by decide +kernel
theorem dX3_turn_62 : decode cX3_turn 62 = .ok (.aload_n 0, 1) := by decide +kernel
theorem dX3_turn_63 : decode cX3_turn 63 = .ok (.iload 7, 2) := by decide +kernel
theorem dX3_turn_65 : decode cX3_turn 65 = .ok (.invokevirtual 69, 3) := by decide +kernel
theorem dX3_turn_68 : decode cX3_turn 68 = .ok (.ifCond .ne 10, 3) := by decide +kernel
theorem dX3_turn_71 : decode cX3_turn 71 = .ok (.aload_n 0, 1) := by decide +kernel
theorem dX3_turn_72 : decode cX3_turn 72 = .ok (.bipush (-5), 2) := by decide +kernel
theorem dX3_turn_74 : decode cX3_turn 74 = .ok (.invokevirtual 56, 3) := by decide +kernel
theorem dX3_turn_77 : decode cX3_turn 77 = .ok (.ireturn, 1) := by decide +kernel
theorem dX3_turn_78 : decode cX3_turn 78 = .ok (.aload_n 0, 1) := by decide +kernel
theorem dX3_turn_79 : decode cX3_turn 79 = .ok (.getfield 25, 3) := by decide +kernel
theorem dX3_turn_82 : decode cX3_turn 82 = .ok (.aload 6, 2) := by decide +kernel
theorem dX3_turn_84 : decode cX3_turn 84 = .ok (.invokevirtual 88, 3) := by decide +kernel
theorem dX3_turn_87 : decode cX3_turn 87 = .ok (.aload_n 0, 1) := by decide +kernel
theorem dX3_turn_88 : decode cX3_turn 88 = .ok (.aload 6, 2) := by decide +kernel
theorem dX3_turn_90 : decode cX3_turn 90 = .ok (.iload_n 2, 1) := by decide +kernel
theorem dX3_turn_91 : decode cX3_turn 91 = .ok (.iload 7, 2) := by decide +kernel
theorem dX3_turn_93 : decode cX3_turn 93 = .ok (.invokevirtual 72, 3) := by decide +kernel
theorem dX3_turn_96 : decode cX3_turn 96 = .ok (.astore 8, 2) := by decide +kernel
theorem dX3_turn_98 : decode cX3_turn 98 = .ok (.aload 8, 2) := by decide +kernel
theorem dX3_turn_100 : decode cX3_turn 100 = .ok (.iconst 0, 1) := by decide +kernel
theorem dX3_turn_101 : decode cX3_turn 101 = .ok (.iload_n 3, 1) := by decide +kernel
theorem dX3_turn_102 : decode cX3_turn 102 = .ok (.iload 4, 2) := by decide +kernel
theorem dX3_turn_104 : decode cX3_turn 104 = .ok (.invokevirtual 76, 3) := by decide +kernel
theorem dX3_turn_107 : decode cX3_turn 107 = .ok (.iconst 1, 1) := by decide +kernel
theorem dX3_turn_108 : decode cX3_turn 108 = .ok (.istore 9, 2) := by decide +kernel
theorem dX3_turn_110 : decode cX3_turn 110 = .ok (.iload 9, 2) := by decide +kernel
theorem dX3_turn_112 : decode cX3_turn 112 = .ok (.iload 7, 2) := by decide +kernel
theorem dX3_turn_114 : decode cX3_turn 114 = .ok (.if_icmp .ge 40, 3) := by decide +kernel
theorem dX3_turn_117 : decode cX3_turn 117 = .ok (.aload 8, 2) := by decide +kernel
theorem dX3_turn_119 : decode cX3_turn 119 = .ok (.iload 9, 2) := by decide +kernel
theorem dX3_turn_121 : decode cX3_turn 121 = .ok (.aload_n 0, 1) := by decide +kernel
theorem dX3_turn_122 : decode cX3_turn 122 = .ok (.getfield 25, 3) := by decide +kernel
theorem dX3_turn_125 : decode cX3_turn 125 = .ok (.getfield 92, 3) := by decide +kernel
theorem dX3_turn_128 : decode cX3_turn 128 = .ok (.iload_n 2, 1) := by decide +kernel
theorem dX3_turn_129 : decode cX3_turn 129 = .ok (.iload 9, 2) := by decide +kernel
theorem dX3_turn_131 : decode cX3_turn 131 = .ok (.iadd, 1) := by decide +kernel
theorem dX3_turn_132 : decode cX3_turn 132 = .ok (.iaload, 1) := by decide +kernel
theorem dX3_turn_133 : decode cX3_turn 133 = .ok (.aload_n 0, 1) := by decide +kernel
theorem dX3_turn_134 : decode cX3_turn 134 = .ok (.getfield 25, 3) := by decide +kernel
theorem dX3_turn_137 : decode cX3_turn 137 = .ok (.getfield 95, 3) := by decide +kernel
theorem dX3_turn_140 : decode cX3_turn 140 = .ok (.iload_n 2, 1) := by decide +kernel
theorem dX3_turn_141 : decode cX3_turn 141 = .ok (.iload 9, 2) := by decide +kernel
theorem dX3_turn_143 : decode cX3_turn 143 = .ok (.iadd, 1) := by decide +kernel
theorem dX3_turn_144 : decode cX3_turn 144 = .ok (.iaload, 1) := by decide +kernel
theorem dX3_turn_145 : decode cX3_turn 145 = .ok (.invokevirtual 76, 3) := by decide +kernel
theorem dX3_turn_148 : decode cX3_turn 148 = .ok (.iinc 9 1, 3) := by decide +kernel
theorem dX3_turn_151 : decode cX3_turn 151 = .ok (.goto (-41), 3) := by decide +kernel
theorem dX3_turn_154 : decode cX3_turn 154 = .ok (.aload_n 0, 1) := by decide +kernel
theorem dX3_turn_155 : decode cX3_turn 155 = .ok (.aload 8, 2) := by decide +kernel
theorem dX3_turn_157 : decode cX3_turn 157 = .ok (.iload_n 1, 1) := by decide +kernel
theorem dX3_turn_158 : decode cX3_turn 158 = .ok (.invokevirtual 80, 3) := by decide +kernel
theorem dX3_turn_161 : decode cX3_turn 161 = .ok (.ireturn, 1) := by decide +kernel
theorem dX3_version_0 : decode cX3_version 0 = .ok (.aload_n 0, 1) := by decide +kernel
theorem dX3_version_1 : decode cX3_version 1 = .ok (.iload_n 1, 1) := by decide +kernel
theorem dX3_version_2 : decode cX3_version 2 = .ok (.invokevirtual 98, 3) := by decide +kernel
theorem dX3_version_5 : decode cX3_version 5 = .ok (.ifCond .eq 10, 3) := by decide +kernel
theorem dX3_version_8 : decode cX3_version 8 = .ok (.iload_n 2, 1) := by decide +kernel
theorem dX3_version_9 : decode cX3_version 9 = .ok (.invokestatic 63, 3) := by decide +kernel
theorem dX3_version_12 : decode cX3_version 12 = .ok (.ifCond .ne 9, 3) := by decide +kernel
theorem dX3_version_15 : decode cX3_version 15 = .ok (.aload_n 0, 1) := by decide +kernel
theorem dX3_version_16 : decode cX3_version 16 = .ok (.iconst (-1), 1) := by decide +kernel
theorem dX3_version_17 : decode cX3_version 17 = .ok (.invokevirtual 56, 3) := by decide +kernel
theorem dX3_version_20 : decode cX3_version 20 = .ok (.ireturn, 1) := by decide +kernel
theorem dX3_version_21 : decode cX3_version 21 = .ok (.aload_n 0, 1) := by decide +kernel
theorem dX3_version_22 : decode cX3_version 22 = .ok (.getfield 11, 3) := by decide +kernel
theorem dX3_version_25 : decode cX3_version 25 = .ok (.iload_n 1, 1) := by decide +kernel
theorem dX3_version_26 : decode cX3_version 26 = .ok (.aaload, 1) := by decide +kernel
theorem dX3_version_27 : decode cX3_version 27 = .ok (.astore_n 3, 1) := by decide +kernel
theorem dX3_version_28 : decode cX3_version 28 = .ok (.aload_n 0, 1) := by decide +kernel
theorem dX3_version_29 : decode cX3_version 29 = .ok (.aload_n 3, 1) := by decide +kernel
theorem dX3_version_30 : decode cX3_version 30 = .ok (.iload_n 2, 1) := by decide +kernel
theorem dX3_version_31 : decode cX3_version 31 = .ok (.invokevirtual 80, 3) := by decide +kernel
theorem dX3_version_34 : decode cX3_version 34 = .ok (.pop, 1) := by decide +kernel
theorem dX3_version_35 : decode cX3_version 35 = .ok (.aload_n 3, 1) := by decide +kernel
theorem dX3_version_36 : decode cX3_version 36 = .ok (.getfield 66, 3) := by decide +kernel
theorem dX3_version_39 : decode cX3_version 39 = .ok (.ireturn, 1) := by decide +kernel
theorem dX3_about_0 : decode cX3_about 0 = .ok (.aload_n 0, 1) := by decide +kernel
theorem dX3_about_1 : decode cX3_about 1 = .ok (.iload_n 1, 1) := by decide +kernel
theorem dX3_about_2 : decode cX3_about 2 = .ok (.invokevirtual 98, 3) := by decide +kernel
theorem dX3_about_5 : decode cX3_about 5 = .ok (.ifCond .ne 9, 3) := by decide +kernel
theorem dX3_about_8 : decode cX3_about 8 = .ok (.aload_n 0, 1) := by decide +kernel
theorem dX3_about_9 : decode cX3_about 9 = .ok (.iconst (-1), 1) := by decide +kernel
theorem dX3_about_10 : decode cX3_about 10 = .ok (.invokevirtual 56, 3) := by decide +kernel
theorem dX3_about_13 : decode cX3_about 13 = .ok (.ireturn, 1) := by decide +kernel
theorem dX3_about_14 : decode cX3_about 14 = .ok (.aload_n 0, 1) := by decide +kernel
theorem dX3_about_15 : decode cX3_about 15 = .ok (.getfield 11, 3) := by decide +kernel
theorem dX3_about_18 : decode cX3_about 18 = .ok (.iload_n 1, 1) := by decide +kernel
theorem dX3_about_19 : decode cX3_about 19 = .ok (.aaload, 1) := by decide +kernel
theorem dX3_about_20 : decode cX3_about 20 = .ok (.astore_n 3, 1) := by decide +kernel
theorem dX3_about_21 : decode cX3_about 21 = .ok (.iload_n 2, 1) := by decide +kernel
theorem dX3_about_22 : decode cX3_about 22 = .ok (.tableswitch 86 0 4 #[34, 39, 63, 68, 81], 34) := by decide +kernel
theorem dX3_about_56 : decode cX3_about 56 = .ok (.aload_n 3, 1) := by decide +kernel
theorem dX3_about_57 : decode cX3_about 57 = .ok (.getfield 66, 3) := by decide +kernel
theorem dX3_about_60 : decode cX3_about 60 = .ok (.ireturn, 1) := by decide +kernel
theorem dX3_about_61 : decode cX3_about 61 = .ok (.aload_n 3, 1) := by decide +kernel
theorem dX3_about_62 : decode cX3_about 62 = .ok (.getfield 101, 3) := by decide +kernel
theorem dX3_about_65 : decode cX3_about 65 = .ok (.ifnonnull 12, 3) := by decide +kernel
theorem dX3_about_68 : decode cX3_about 68 = .ok (.aload_n 0, 1) := by decide +kernel
theorem dX3_about_69 : decode cX3_about 69 = .ok (.bipush (-6), 2) := by decide +kernel
theorem dX3_about_71 : decode cX3_about 71 = .ok (.invokevirtual 56, 3) := by decide +kernel
theorem dX3_about_74 : decode cX3_about 74 = .ok (.goto 10, 3) := by decide +kernel
theorem dX3_about_77 : decode cX3_about 77 = .ok (.aload_n 3, 1) := by decide +kernel
theorem dX3_about_78 : decode cX3_about 78 = .ok (.getfield 101, 3) := by decide +kernel
theorem dX3_about_81 : decode cX3_about 81 = .ok (.getfield 105, 3) := by decide +kernel
theorem dX3_about_84 : decode cX3_about 84 = .ok (.ireturn, 1) := by decide +kernel
theorem dX3_about_85 : decode cX3_about 85 = .ok (.aload_n 3, 1) := by decide +kernel
theorem dX3_about_86 : decode cX3_about 86 = .ok (.getfield 108, 3) := by decide +kernel
theorem dX3_about_89 : decode cX3_about 89 = .ok (.ireturn, 1) := by decide +kernel
theorem dX3_about_90 : decode cX3_about 90 = .ok (.aload_n 3, 1) := by decide +kernel
theorem dX3_about_91 : decode cX3_about 91 = .ok (.getfield 111, 3) := by decide +kernel
theorem dX3_about_94 : decode cX3_about 94 = .ok (.ifCond .eq 7, 3) := by decide +kernel
theorem dX3_about_97 : decode cX3_about 97 = .ok (.iconst 1, 1) := by decide +kernel
theorem dX3_about_98 : decode cX3_about 98 = .ok (.goto 4, 3) := by decide +kernel
theorem dX3_about_101 : decode cX3_about 101 = .ok (.iconst 0, 1) := by decide +kernel
theorem dX3_about_102 : decode cX3_about 102 = .ok (.ireturn, 1) := by decide +kernel
theorem dX3_about_103 : decode cX3_about 103 = .ok (.aload_n 3, 1) := by decide +kernel
theorem dX3_about_104 : decode cX3_about 104 = .ok (.getfield 115, 3) := by decide +kernel
theorem dX3_about_107 : decode cX3_about 107 = .ok (.ireturn, 1) := by decide +kernel
theorem dX3_about_108 : decode cX3_about 108 = .ok (.aload_n 0, 1) := by decide +kernel
theorem dX3_about_109 : decode cX3_about 109 = .ok (.iconst (-1), 1) := by decide +kernel
theorem dX3_about_110 : decode cX3_about 110 = .ok (.invokevirtual 56, 3) := by decide +kernel
theorem dX3_about_113 : decode cX3_about 113 = .ok (.ireturn, 1) := by decide +kernel
theorem dX3_common_0 : decode cX3_common 0 = .ok (.aload_n 0, 1) := by decide +kernel
theorem dX3_common_1 : decode cX3_common 1 = .ok (.iload_n 1, 1) := by decide +kernel
theorem dX3_common_2 : decode cX3_common 2 = .ok (.invokevirtual 98, 3) := by decide +kernel
theorem dX3_common_5 : decode cX3_common 5 = .ok (.ifCond .eq 11, 3) := by decide +kernel
theorem dX3_common_8 : decode cX3_common 8 = .ok (.aload_n 0, 1) := by decide +kernel
theorem dX3_common_9 : decode cX3_common 9 = .ok (.iload_n 2, 1) := by decide +kernel
theorem dX3_common_10 : decode cX3_common 10 = .ok (.invokevirtual 98, 3) := by decide +kernel
theorem dX3_common_13 : decode cX3_common 13 = .ok (.ifCond .ne 9, 3) := by decide +kernel
theorem dX3_common_16 : decode cX3_common 16 = .ok (.aload_n 0, 1) := by decide +kernel
theorem dX3_common_17 : decode cX3_common 17 = .ok (.iconst (-1), 1) := by decide +kernel
theorem dX3_common_18 : decode cX3_common 18 = .ok (.invokevirtual 56, 3) := by decide +kernel
theorem dX3_common_21 : decode cX3_common 21 = .ok (.ireturn, 1) := by decide +kernel
theorem dX3_common_22 : decode cX3_common 22 = .ok (.aload_n 0, 1) := by decide +kernel
theorem dX3_common_23 : decode cX3_common 23 = .ok (.getfield 11, 3) := by decide +kernel
theorem dX3_common_26 : decode cX3_common 26 = .ok (.iload_n 1, 1) := by decide +kernel
theorem dX3_common_27 : decode cX3_common 27 = .ok (.aaload, 1) := by decide +kernel
theorem dX3_common_28 : decode cX3_common 28 = .ok (.astore_n 3, 1) := by decide +kernel
theorem dX3_common_29 : decode cX3_common 29 = .ok (.aload_n 0, 1) := by decide +kernel
theorem dX3_common_30 : decode cX3_common 30 = .ok (.getfield 11, 3) := by decide +kernel
theorem dX3_common_33 : decode cX3_common 33 = .ok (.iload_n 2, 1) := by decide +kernel
theorem dX3_common_34 : decode cX3_common 34 = .ok (.aaload, 1) := by decide +kernel
theorem dX3_common_35 : decode cX3_common 35 = .ok (.astore 4, 2) := by decide +kernel
theorem dX3_common_37 : decode cX3_common 37 = .ok (.aload_n 3, 1) := by decide +kernel
theorem dX3_common_38 : decode cX3_common 38 = .ok (.aload 4, 2) := by decide +kernel
theorem dX3_common_40 : decode cX3_common 40 = .ok (.if_acmp .eq 42, 3) := by decide +kernel
theorem dX3_common_43 : decode cX3_common 43 = .ok (.aload_n 3, 1) := by decide +kernel
theorem dX3_common_44 : decode cX3_common 44 = .ok (.ifnull 38, 3) := by decide +kernel
theorem dX3_common_47 : decode cX3_common 47 = .ok (.aload 4, 2) := by decide +kernel
theorem dX3_common_49 : decode cX3_common 49 = .ok (.ifnull 33, 3) := by decide +kernel
theorem dX3_common_52 : decode cX3_common 52 = .ok (.aload_n 3, 1) := by decide +kernel
theorem dX3_common_53 : decode cX3_common 53 = .ok (.getfield 105, 3) := by decide +kernel
theorem dX3_common_56 : decode cX3_common 56 = .ok (.aload 4, 2) := by decide +kernel
theorem dX3_common_58 : decode cX3_common 58 = .ok (.getfield 105, 3) := by decide +kernel
theorem dX3_common_61 : decode cX3_common 61 = .ok (.if_icmp .le 11, 3) := by decide +kernel
theorem dX3_common_64 : decode cX3_common 64 = .ok (.aload_n 3, 1) := by decide +kernel
theorem dX3_common_65 : decode cX3_common 65 = .ok (.getfield 101, 3) := by decide +kernel
theorem dX3_common_68 : decode cX3_common 68 = .ok (.astore_n 3, 1) := by decide +kernel
theorem dX3_common_69 : decode cX3_common 69 = .ok (.goto (-32), 3) := by decide +kernel
theorem dX3_common_72 : decode cX3_common 72 = .ok (.aload 4, 2) := by decide +kernel
theorem dX3_common_74 : decode cX3_common 74 = .ok (.getfield 101, 3) := by decide +kernel
theorem dX3_common_77 : decode cX3_common 77 = .ok (.astore 4, 2) := by decide +kernel
theorem dX3_common_79 : decode cX3_common 79 = .ok (.goto (-42), 3) := by decide +kernel
theorem dX3_common_82 : decode cX3_common 82 = .ok (.aload_n 3, 1) := by decide +kernel
theorem dX3_common_83 : decode cX3_common 83 = .ok (.ifnonnull 7, 3) := by decide +kernel
theorem dX3_common_86 : decode cX3_common 86 = .ok (.iconst 0, 1) := by decide +kernel
theorem dX3_common_87 : decode cX3_common 87 = .ok (.goto 7, 3) := by decide +kernel
theorem dX3_common_90 : decode cX3_common 90 = .ok (.aload_n 3, 1) := by decide +kernel
theorem dX3_common_91 : decode cX3_common 91 = .ok (.getfield 105, 3) := by decide +kernel
theorem dX3_common_94 : decode cX3_common 94 = .ok (.ireturn, 1) := by decide +kernel
theorem dX3_versions_0 : decode cX3_versions 0 = .ok (.iload_n 1, 1) := by decide +kernel
theorem dX3_versions_1 : decode cX3_versions 1 = .ok (.ifCond .eq 10, 3) := by decide +kernel
theorem dX3_versions_4 : decode cX3_versions 4 = .ok (.aload_n 0, 1) := by decide +kernel
theorem dX3_versions_5 : decode cX3_versions 5 = .ok (.getfield 118, 3) := by decide +kernel
theorem dX3_versions_8 : decode cX3_versions 8 = .ok (.goto 7, 3) := by decide +kernel
theorem dX3_versions_11 : decode cX3_versions 11 = .ok (.aload_n 0, 1) := by decide +kernel
theorem dX3_versions_12 : decode cX3_versions 12 = .ok (.getfield 48, 3) := by decide +kernel
theorem dX3_versions_15 : decode cX3_versions 15 = .ok (.ireturn, 1) := by decide +kernel
theorem dX3_seal_0 : decode cX3_seal 0 = .ok (.aload_n 0, 1) := by decide +kernel
theorem dX3_seal_1 : decode cX3_seal 1 = .ok (.iload_n 1, 1) := by decide +kernel
theorem dX3_seal_2 : decode cX3_seal 2 = .ok (.invokevirtual 121, 3) := by decide +kernel
theorem dX3_seal_5 : decode cX3_seal 5 = .ok (.istore 4, 2) := by decide +kernel
theorem dX3_seal_7 : decode cX3_seal 7 = .ok (.iload 4, 2) := by decide +kernel
theorem dX3_seal_9 : decode cX3_seal 9 = .ok (.ifCond .eq 10, 3) := by decide +kernel
theorem dX3_seal_12 : decode cX3_seal 12 = .ok (.aload_n 0, 1) := by decide +kernel
theorem dX3_seal_13 : decode cX3_seal 13 = .ok (.iload 4, 2) := by decide +kernel
theorem dX3_seal_15 : decode cX3_seal 15 = .ok (.invokevirtual 56, 3) := by decide +kernel
theorem dX3_seal_18 : decode cX3_seal 18 = .ok (.ireturn, 1) := by decide +kernel
theorem dX3_seal_19 : decode cX3_seal 19 = .ok (.iload_n 2, 1) := by decide +kernel
theorem dX3_seal_20 : decode cX3_seal 20 = .ok (.invokestatic 63, 3) := by decide +kernel
theorem dX3_seal_23 : decode cX3_seal 23 = .ok (.ifCond .ne 9, 3) := by decide +kernel
theorem dX3_seal_26 : decode cX3_seal 26 = .ok (.aload_n 0, 1) := by decide +kernel
theorem dX3_seal_27 : decode cX3_seal 27 = .ok (.iconst (-1), 1) := by decide +kernel
theorem dX3_seal_28 : decode cX3_seal 28 = .ok (.invokevirtual 56, 3) := by decide +kernel
theorem dX3_seal_31 : decode cX3_seal 31 = .ok (.ireturn, 1) := by decide +kernel
theorem dX3_seal_32 : decode cX3_seal 32 = .ok (.aload_n 0, 1) := by decide +kernel
theorem dX3_seal_33 : decode cX3_seal 33 = .ok (.getfield 15, 3) := by decide +kernel
theorem dX3_seal_36 : decode cX3_seal 36 = .ok (.iload_n 1, 1) := by decide +kernel
theorem dX3_seal_37 : decode cX3_seal 37 = .ok (.aaload, 1) := by decide +kernel
theorem dX3_seal_38 : decode cX3_seal 38 = .ok (.astore 5, 2) := by decide +kernel
theorem dX3_seal_40 : decode cX3_seal 40 = .ok (.iload_n 3, 1) := by decide +kernel
theorem dX3_seal_41 : decode cX3_seal 41 = .ok (.ifCond .eq 39, 3) := by decide +kernel
theorem dX3_seal_44 : decode cX3_seal 44 = .ok (.aload_n 0, 1) := by decide +kernel
theorem dX3_seal_45 : decode cX3_seal 45 = .ok (.getfield 25, 3) := by decide +kernel
theorem dX3_seal_48 : decode cX3_seal 48 = .ok (.aload 5, 2) := by decide +kernel
theorem dX3_seal_50 : decode cX3_seal 50 = .ok (.invokevirtual 88, 3) := by decide +kernel
theorem dX3_seal_53 : decode cX3_seal 53 = .ok (.aload_n 0, 1) := by decide +kernel
theorem dX3_seal_54 : decode cX3_seal 54 = .ok (.getfield 25, 3) := by decide +kernel
theorem dX3_seal_57 : decode cX3_seal 57 = .ok (.iconst 0, 1) := by decide +kernel
theorem dX3_seal_58 : decode cX3_seal 58 = .ok (.aload 5, 2) := by decide +kernel
theorem dX3_seal_60 : decode cX3_seal 60 = .ok (.getfield 66, 3) := by decide +kernel
theorem dX3_seal_63 : decode cX3_seal 63 = .ok (.sipush 256, 3) := by decide +kernel
theorem dX3_seal_66 : decode cX3_seal 66 = .ok (.invokevirtual 124, 3) := by decide +kernel
theorem dX3_seal_69 : decode cX3_seal 69 = .ok (.bipush (-6), 2) := by decide +kernel
theorem dX3_seal_71 : decode cX3_seal 71 = .ok (.if_icmp .eq 9, 3) := by decide +kernel
theorem dX3_seal_74 : decode cX3_seal 74 = .ok (.aload_n 0, 1) := by decide +kernel
theorem dX3_seal_75 : decode cX3_seal 75 = .ok (.iconst (-1), 1) := by decide +kernel
theorem dX3_seal_76 : decode cX3_seal 76 = .ok (.invokevirtual 56, 3) := by decide +kernel
theorem dX3_seal_79 : decode cX3_seal 79 = .ok (.ireturn, 1) := by decide +kernel
theorem dX3_seal_80 : decode cX3_seal 80 = .ok (.aload_n 0, 1) := by decide +kernel
theorem dX3_seal_81 : decode cX3_seal 81 = .ok (.getfield 15, 3) := by decide +kernel
theorem dX3_seal_84 : decode cX3_seal 84 = .ok (.iload_n 2, 1) := by decide +kernel
theorem dX3_seal_85 : decode cX3_seal 85 = .ok (.aload 5, 2) := by decide +kernel
theorem dX3_seal_87 : decode cX3_seal 87 = .ok (.aastore, 1) := by decide +kernel
theorem dX3_seal_88 : decode cX3_seal 88 = .ok (.aload_n 0, 1) := by decide +kernel
theorem dX3_seal_89 : decode cX3_seal 89 = .ok (.getfield 18, 3) := by decide +kernel
theorem dX3_seal_92 : decode cX3_seal 92 = .ok (.iload_n 2, 1) := by decide +kernel
theorem dX3_seal_93 : decode cX3_seal 93 = .ok (.iload_n 3, 1) := by decide +kernel
theorem dX3_seal_94 : decode cX3_seal 94 = .ok (.ifCond .eq 7, 3) := by decide +kernel
theorem dX3_seal_97 : decode cX3_seal 97 = .ok (.iconst 2, 1) := by decide +kernel
theorem dX3_seal_98 : decode cX3_seal 98 = .ok (.goto 4, 3) := by decide +kernel
theorem dX3_seal_101 : decode cX3_seal 101 = .ok (.iconst 1, 1) := by decide +kernel
theorem dX3_seal_102 : decode cX3_seal 102 = .ok (.iastore, 1) := by decide +kernel
theorem dX3_seal_103 : decode cX3_seal 103 = .ok (.aload 5, 2) := by decide +kernel
theorem dX3_seal_105 : decode cX3_seal 105 = .ok (.getfield 66, 3) := by decide +kernel
theorem dX3_seal_108 : decode cX3_seal 108 = .ok (.ireturn, 1) := by decide +kernel
theorem dX3_put_0 : decode cX3_put 0 = .ok (.aload_n 0, 1) := by decide +kernel
theorem dX3_put_1 : decode cX3_put 1 = .ok (.iload_n 1, 1) := by decide +kernel
theorem dX3_put_2 : decode cX3_put 2 = .ok (.invokevirtual 121, 3) := by decide +kernel
theorem dX3_put_5 : decode cX3_put 5 = .ok (.istore_n 3, 1) := by decide +kernel
theorem dX3_put_6 : decode cX3_put 6 = .ok (.iload_n 3, 1) := by decide +kernel
theorem dX3_put_7 : decode cX3_put 7 = .ok (.ifCond .eq 9, 3) := by decide +kernel
theorem dX3_put_10 : decode cX3_put 10 = .ok (.aload_n 0, 1) := by decide +kernel
theorem dX3_put_11 : decode cX3_put 11 = .ok (.iload_n 3, 1) := by decide +kernel
theorem dX3_put_12 : decode cX3_put 12 = .ok (.invokevirtual 56, 3) := by decide +kernel
theorem dX3_put_15 : decode cX3_put 15 = .ok (.ireturn, 1) := by decide +kernel
theorem dX3_put_16 : decode cX3_put 16 = .ok (.iload_n 2, 1) := by decide +kernel
theorem dX3_put_17 : decode cX3_put 17 = .ok (.invokestatic 63, 3) := by decide +kernel
theorem dX3_put_20 : decode cX3_put 20 = .ok (.ifCond .ne 9, 3) := by decide +kernel
theorem dX3_put_23 : decode cX3_put 23 = .ok (.aload_n 0, 1) := by decide +kernel
theorem dX3_put_24 : decode cX3_put 24 = .ok (.iconst (-1), 1) := by decide +kernel
theorem dX3_put_25 : decode cX3_put 25 = .ok (.invokevirtual 56, 3) := by decide +kernel
theorem dX3_put_28 : decode cX3_put 28 = .ok (.ireturn, 1) := by decide +kernel
theorem dX3_put_29 : decode cX3_put 29 = .ok (.aload_n 0, 1) := by decide +kernel
theorem dX3_put_30 : decode cX3_put 30 = .ok (.getfield 15, 3) := by decide +kernel
theorem dX3_put_33 : decode cX3_put 33 = .ok (.iload_n 2, 1) := by decide +kernel
theorem dX3_put_34 : decode cX3_put 34 = .ok (.aload_n 0, 1) := by decide +kernel
theorem dX3_put_35 : decode cX3_put 35 = .ok (.getfield 15, 3) := by decide +kernel
theorem dX3_put_38 : decode cX3_put 38 = .ok (.iload_n 1, 1) := by decide +kernel
theorem dX3_put_39 : decode cX3_put 39 = .ok (.aaload, 1) := by decide +kernel
theorem dX3_put_40 : decode cX3_put 40 = .ok (.aastore, 1) := by decide +kernel
theorem dX3_put_41 : decode cX3_put 41 = .ok (.aload_n 0, 1) := by decide +kernel
theorem dX3_put_42 : decode cX3_put 42 = .ok (.getfield 18, 3) := by decide +kernel
theorem dX3_put_45 : decode cX3_put 45 = .ok (.iload_n 2, 1) := by decide +kernel
theorem dX3_put_46 : decode cX3_put 46 = .ok (.aload_n 0, 1) := by decide +kernel
theorem dX3_put_47 : decode cX3_put 47 = .ok (.getfield 18, 3) := by decide +kernel
theorem dX3_put_50 : decode cX3_put 50 = .ok (.iload_n 1, 1) := by decide +kernel
theorem dX3_put_51 : decode cX3_put 51 = .ok (.iaload, 1) := by decide +kernel
theorem dX3_put_52 : decode cX3_put 52 = .ok (.iastore, 1) := by decide +kernel
theorem dX3_put_53 : decode cX3_put 53 = .ok (.aload_n 0, 1) := by decide +kernel
theorem dX3_put_54 : decode cX3_put 54 = .ok (.getfield 18, 3) := by decide +kernel
theorem dX3_put_57 : decode cX3_put 57 = .ok (.iload_n 2, 1) := by decide +kernel
theorem dX3_put_58 : decode cX3_put 58 = .ok (.iaload, 1) := by decide +kernel
theorem dX3_put_59 : decode cX3_put 59 = .ok (.ireturn, 1) := by decide +kernel
theorem dX3_take_0 : decode cX3_take 0 = .ok (.iload_n 1, 1) := by decide +kernel
theorem dX3_take_1 : decode cX3_take 1 = .ok (.invokestatic 63, 3) := by decide +kernel
theorem dX3_take_4 : decode cX3_take 4 = .ok (.ifCond .ne 9, 3) := by decide +kernel
theorem dX3_take_7 : decode cX3_take 7 = .ok (.aload_n 0, 1) := by decide +kernel
theorem dX3_take_8 : decode cX3_take 8 = .ok (.iconst (-1), 1) := by decide +kernel
theorem dX3_take_9 : decode cX3_take 9 = .ok (.invokevirtual 56, 3) := by decide +kernel
theorem dX3_take_12 : decode cX3_take 12 = .ok (.ireturn, 1) := by decide +kernel
theorem dX3_take_13 : decode cX3_take 13 = .ok (.aload_n 0, 1) := by decide +kernel
theorem dX3_take_14 : decode cX3_take 14 = .ok (.getfield 15, 3) := by decide +kernel
theorem dX3_take_17 : decode cX3_take 17 = .ok (.iload_n 1, 1) := by decide +kernel
theorem dX3_take_18 : decode cX3_take 18 = .ok (.aconst_null, 1) := by decide +kernel
theorem dX3_take_19 : decode cX3_take 19 = .ok (.aastore, 1) := by decide +kernel
theorem dX3_take_20 : decode cX3_take 20 = .ok (.iconst 0, 1) := by decide +kernel
theorem dX3_take_21 : decode cX3_take 21 = .ok (.ireturn, 1) := by decide +kernel
theorem dX3_row_0 : decode cX3_row 0 = .ok (.aload_n 0, 1) := by decide +kernel
theorem dX3_row_1 : decode cX3_row 1 = .ok (.iload_n 1, 1) := by decide +kernel
theorem dX3_row_2 : decode cX3_row 2 = .ok (.invokevirtual 121, 3) := by decide +kernel
theorem dX3_row_5 : decode cX3_row 5 = .ok (.istore_n 3, 1) := by decide +kernel
theorem dX3_row_6 : decode cX3_row 6 = .ok (.iload_n 3, 1) := by decide +kernel
theorem dX3_row_7 : decode cX3_row 7 = .ok (.ifCond .eq 9, 3) := by decide +kernel
theorem dX3_row_10 : decode cX3_row 10 = .ok (.aload_n 0, 1) := by decide +kernel
theorem dX3_row_11 : decode cX3_row 11 = .ok (.iload_n 3, 1) := by decide +kernel
theorem dX3_row_12 : decode cX3_row 12 = .ok (.invokevirtual 56, 3) := by decide +kernel
theorem dX3_row_15 : decode cX3_row 15 = .ok (.ireturn, 1) := by decide +kernel
theorem dX3_row_16 : decode cX3_row 16 = .ok (.iload_n 2, 1) := by decide +kernel
theorem dX3_row_17 : decode cX3_row 17 = .ok (.tableswitch 72 0 2 #[27, 34, 44], 27) := by decide +kernel
theorem dX3_row_44 : decode cX3_row 44 = .ok (.aload_n 0, 1) := by decide +kernel
theorem dX3_row_45 : decode cX3_row 45 = .ok (.getfield 18, 3) := by decide +kernel
theorem dX3_row_48 : decode cX3_row 48 = .ok (.iload_n 1, 1) := by decide +kernel
theorem dX3_row_49 : decode cX3_row 49 = .ok (.iaload, 1) := by decide +kernel
theorem dX3_row_50 : decode cX3_row 50 = .ok (.ireturn, 1) := by decide +kernel
theorem dX3_row_51 : decode cX3_row 51 = .ok (.aload_n 0, 1) := by decide +kernel
theorem dX3_row_52 : decode cX3_row 52 = .ok (.getfield 15, 3) := by decide +kernel
theorem dX3_row_55 : decode cX3_row 55 = .ok (.iload_n 1, 1) := by decide +kernel
theorem dX3_row_56 : decode cX3_row 56 = .ok (.aaload, 1) := by decide +kernel
theorem dX3_row_57 : decode cX3_row 57 = .ok (.getfield 66, 3) := by decide +kernel
theorem dX3_row_60 : decode cX3_row 60 = .ok (.ireturn, 1) := by decide +kernel
theorem dX3_row_61 : decode cX3_row 61 = .ok (.aload_n 0, 1) := by decide +kernel
theorem dX3_row_62 : decode cX3_row 62 = .ok (.getfield 18, 3) := by decide +kernel
theorem dX3_row_65 : decode cX3_row 65 = .ok (.iload_n 1, 1) := by decide +kernel
theorem dX3_row_66 : decode cX3_row 66 = .ok (.iaload, 1) := by decide +kernel
theorem dX3_row_67 : decode cX3_row 67 = .ok (.ifCond .ne 15, 3) := by decide +kernel
theorem dX3_row_70 : decode cX3_row 70 = .ok (.aload_n 0, 1) := by decide +kernel
theorem dX3_row_71 : decode cX3_row 71 = .ok (.getfield 15, 3) := by decide +kernel
theorem dX3_row_74 : decode cX3_row 74 = .ok (.iload_n 1, 1) := by decide +kernel
theorem dX3_row_75 : decode cX3_row 75 = .ok (.aaload, 1) := by decide +kernel
theorem dX3_row_76 : decode cX3_row 76 = .ok (.getfield 105, 3) := by decide +kernel
theorem dX3_row_79 : decode cX3_row 79 = .ok (.goto 9, 3) := by decide +kernel
theorem dX3_row_82 : decode cX3_row 82 = .ok (.aload_n 0, 1) := by decide +kernel
theorem dX3_row_83 : decode cX3_row 83 = .ok (.bipush (-3), 2) := by decide +kernel
theorem dX3_row_85 : decode cX3_row 85 = .ok (.invokevirtual 56, 3) := by decide +kernel
theorem dX3_row_88 : decode cX3_row 88 = .ok (.ireturn, 1) := by decide +kernel
theorem dX3_row_89 : decode cX3_row 89 = .ok (.aload_n 0, 1) := by decide +kernel
theorem dX3_row_90 : decode cX3_row 90 = .ok (.iconst (-1), 1) := by decide +kernel
theorem dX3_row_91 : decode cX3_row 91 = .ok (.invokevirtual 56, 3) := by decide +kernel
theorem dX3_row_94 : decode cX3_row 94 = .ok (.ireturn, 1) := by decide +kernel
theorem dX3_at_0 : decode cX3_at 0 = .ok (.aload_n 0, 1) := by decide +kernel
theorem dX3_at_1 : decode cX3_at 1 = .ok (.iload_n 1, 1) := by decide +kernel
theorem dX3_at_2 : decode cX3_at 2 = .ok (.iload_n 2, 1) := by decide +kernel
theorem dX3_at_3 : decode cX3_at 3 = .ok (.invokevirtual 127, 3) := by decide +kernel
theorem dX3_at_6 : decode cX3_at 6 = .ok (.istore_n 3, 1) := by decide +kernel
theorem dX3_at_7 : decode cX3_at 7 = .ok (.iload_n 3, 1) := by decide +kernel
theorem dX3_at_8 : decode cX3_at 8 = .ok (.ifCond .eq 9, 3) := by decide +kernel
theorem dX3_at_11 : decode cX3_at 11 = .ok (.aload_n 0, 1) := by decide +kernel
theorem dX3_at_12 : decode cX3_at 12 = .ok (.iload_n 3, 1) := by decide +kernel
theorem dX3_at_13 : decode cX3_at 13 = .ok (.invokevirtual 56, 3) := by decide +kernel
theorem dX3_at_16 : decode cX3_at 16 = .ok (.ireturn, 1) := by decide +kernel
theorem dX3_at_17 : decode cX3_at 17 = .ok (.aload_n 0, 1) := by decide +kernel
theorem dX3_at_18 : decode cX3_at 18 = .ok (.getfield 25, 3) := by decide +kernel
theorem dX3_at_21 : decode cX3_at 21 = .ok (.aload_n 0, 1) := by decide +kernel
theorem dX3_at_22 : decode cX3_at 22 = .ok (.getfield 15, 3) := by decide +kernel
theorem dX3_at_25 : decode cX3_at 25 = .ok (.iload_n 1, 1) := by decide +kernel
theorem dX3_at_26 : decode cX3_at 26 = .ok (.aaload, 1) := by decide +kernel
theorem dX3_at_27 : decode cX3_at 27 = .ok (.invokevirtual 88, 3) := by decide +kernel
theorem dX3_at_30 : decode cX3_at 30 = .ok (.aload_n 0, 1) := by decide +kernel
theorem dX3_at_31 : decode cX3_at 31 = .ok (.getfield 25, 3) := by decide +kernel
theorem dX3_at_34 : decode cX3_at 34 = .ok (.getfield 92, 3) := by decide +kernel
theorem dX3_at_37 : decode cX3_at 37 = .ok (.iload_n 2, 1) := by decide +kernel
theorem dX3_at_38 : decode cX3_at 38 = .ok (.iaload, 1) := by decide +kernel
theorem dX3_at_39 : decode cX3_at 39 = .ok (.ireturn, 1) := by decide +kernel
theorem dX3_weight_0 : decode cX3_weight 0 = .ok (.aload_n 0, 1) := by decide +kernel
theorem dX3_weight_1 : decode cX3_weight 1 = .ok (.iload_n 1, 1) := by decide +kernel
theorem dX3_weight_2 : decode cX3_weight 2 = .ok (.iload_n 2, 1) := by decide +kernel
theorem dX3_weight_3 : decode cX3_weight 3 = .ok (.invokevirtual 127, 3) := by decide +kernel
theorem dX3_weight_6 : decode cX3_weight 6 = .ok (.istore_n 3, 1) := by decide +kernel
theorem dX3_weight_7 : decode cX3_weight 7 = .ok (.iload_n 3, 1) := by decide +kernel
theorem dX3_weight_8 : decode cX3_weight 8 = .ok (.ifCond .eq 11, 3) := by decide +kernel
theorem dX3_weight_11 : decode cX3_weight 11 = .ok (.aload_n 0, 1) := by decide +kernel
theorem dX3_weight_12 : decode cX3_weight 12 = .ok (.iload_n 3, 1) := by decide +kernel
theorem dX3_weight_13 : decode cX3_weight 13 = .ok (.invokevirtual 56, 3) := by decide +kernel
theorem dX3_weight_16 : decode cX3_weight 16 = .ok (.pop, 1) := by decide +kernel
theorem dX3_weight_17 : decode cX3_weight 17 = .ok (.lconst 0, 1) := by decide +kernel
theorem dX3_weight_18 : decode cX3_weight 18 = .ok (.lreturn, 1) := by decide +kernel
theorem dX3_weight_19 : decode cX3_weight 19 = .ok (.aload_n 0, 1) := by decide +kernel
theorem dX3_weight_20 : decode cX3_weight 20 = .ok (.getfield 25, 3) := by decide +kernel
theorem dX3_weight_23 : decode cX3_weight 23 = .ok (.aload_n 0, 1) := by decide +kernel
theorem dX3_weight_24 : decode cX3_weight 24 = .ok (.getfield 15, 3) := by decide +kernel
theorem dX3_weight_27 : decode cX3_weight 27 = .ok (.iload_n 1, 1) := by decide +kernel
theorem dX3_weight_28 : decode cX3_weight 28 = .ok (.aaload, 1) := by decide +kernel
theorem dX3_weight_29 : decode cX3_weight 29 = .ok (.invokevirtual 88, 3) := by decide +kernel
theorem dX3_weight_32 : decode cX3_weight 32 = .ok (.aload_n 0, 1) := by decide +kernel
theorem dX3_weight_33 : decode cX3_weight 33 = .ok (.getfield 25, 3) := by decide +kernel
theorem dX3_weight_36 : decode cX3_weight 36 = .ok (.getfield 95, 3) := by decide +kernel
theorem dX3_weight_39 : decode cX3_weight 39 = .ok (.iload_n 2, 1) := by decide +kernel
theorem dX3_weight_40 : decode cX3_weight 40 = .ok (.iaload, 1) := by decide +kernel
theorem dX3_weight_41 : decode cX3_weight 41 = .ok (.i2l, 1) := by decide +kernel
theorem dX3_weight_42 : decode cX3_weight 42 = .ok (.lreturn, 1) := by decide +kernel
theorem dX3_bit_0 : decode cX3_bit 0 = .ok (.aload_n 0, 1) := by decide +kernel
theorem dX3_bit_1 : decode cX3_bit 1 = .ok (.iload_n 1, 1) := by decide +kernel
theorem dX3_bit_2 : decode cX3_bit 2 = .ok (.iload_n 2, 1) := by decide +kernel
theorem dX3_bit_3 : decode cX3_bit 3 = .ok (.invokevirtual 131, 3) := by decide +kernel
theorem dX3_bit_6 : decode cX3_bit 6 = .ok (.istore 4, 2) := by decide +kernel
theorem dX3_bit_8 : decode cX3_bit 8 = .ok (.iload 4, 2) := by decide +kernel
theorem dX3_bit_10 : decode cX3_bit 10 = .ok (.ifCond .ne 23, 3) := by decide +kernel
theorem dX3_bit_13 : decode cX3_bit 13 = .ok (.iload_n 3, 1) := by decide +kernel
theorem dX3_bit_14 : decode cX3_bit 14 = .ok (.ifCond .lt 16, 3) := by decide +kernel
theorem dX3_bit_17 : decode cX3_bit 17 = .ok (.iload_n 3, 1) := by decide +kernel
theorem dX3_bit_18 : decode cX3_bit 18 = .ok (.aload_n 0, 1) := by decide +kernel
theorem dX3_bit_19 : decode cX3_bit 19 = .ok (.getfield 15, 3) := by decide +kernel
theorem dX3_bit_22 : decode cX3_bit 22 = .ok (.iload_n 1, 1) := by decide +kernel
theorem dX3_bit_23 : decode cX3_bit 23 = .ok (.aaload, 1) := by decide +kernel
theorem dX3_bit_24 : decode cX3_bit 24 = .ok (.getfield 66, 3) := by decide +kernel
theorem dX3_bit_27 : decode cX3_bit 27 = .ok (.if_icmp .lt 6, 3) := by decide +kernel
theorem dX3_bit_30 : decode cX3_bit 30 = .ok (.iconst (-1), 1) := by decide +kernel
theorem dX3_bit_31 : decode cX3_bit 31 = .ok (.istore 4, 2) := by decide +kernel
theorem dX3_bit_33 : decode cX3_bit 33 = .ok (.iload 4, 2) := by decide +kernel
theorem dX3_bit_35 : decode cX3_bit 35 = .ok (.ifCond .eq 10, 3) := by decide +kernel
theorem dX3_bit_38 : decode cX3_bit 38 = .ok (.aload_n 0, 1) := by decide +kernel
theorem dX3_bit_39 : decode cX3_bit 39 = .ok (.iload 4, 2) := by decide +kernel
theorem dX3_bit_41 : decode cX3_bit 41 = .ok (.invokevirtual 56, 3) := by decide +kernel
theorem dX3_bit_44 : decode cX3_bit 44 = .ok (.ireturn, 1) := by decide +kernel
theorem dX3_bit_45 : decode cX3_bit 45 = .ok (.aload_n 0, 1) := by decide +kernel
theorem dX3_bit_46 : decode cX3_bit 46 = .ok (.iload_n 1, 1) := by decide +kernel
theorem dX3_bit_47 : decode cX3_bit 47 = .ok (.iload_n 2, 1) := by decide +kernel
theorem dX3_bit_48 : decode cX3_bit 48 = .ok (.invokevirtual 134, 3) := by decide +kernel
theorem dX3_bit_51 : decode cX3_bit 51 = .ok (.istore 5, 2) := by decide +kernel
theorem dX3_bit_53 : decode cX3_bit 53 = .ok (.aload_n 0, 1) := by decide +kernel
theorem dX3_bit_54 : decode cX3_bit 54 = .ok (.getfield 25, 3) := by decide +kernel
theorem dX3_bit_57 : decode cX3_bit 57 = .ok (.getfield 92, 3) := by decide +kernel
theorem dX3_bit_60 : decode cX3_bit 60 = .ok (.iload_n 3, 1) := by decide +kernel
theorem dX3_bit_61 : decode cX3_bit 61 = .ok (.iaload, 1) := by decide +kernel
theorem dX3_bit_62 : decode cX3_bit 62 = .ok (.iload 5, 2) := by decide +kernel
theorem dX3_bit_64 : decode cX3_bit 64 = .ok (.iushr, 1) := by decide +kernel
theorem dX3_bit_65 : decode cX3_bit 65 = .ok (.iconst 1, 1) := by decide +kernel
theorem dX3_bit_66 : decode cX3_bit 66 = .ok (.iand, 1) := by decide +kernel
theorem dX3_bit_67 : decode cX3_bit 67 = .ok (.ireturn, 1) := by decide +kernel
theorem dX3_ones_0 : decode cX3_ones 0 = .ok (.aload_n 0, 1) := by decide +kernel
theorem dX3_ones_1 : decode cX3_ones 1 = .ok (.iload_n 1, 1) := by decide +kernel
theorem dX3_ones_2 : decode cX3_ones 2 = .ok (.iload_n 2, 1) := by decide +kernel
theorem dX3_ones_3 : decode cX3_ones 3 = .ok (.invokevirtual 131, 3) := by decide +kernel
theorem dX3_ones_6 : decode cX3_ones 6 = .ok (.istore 4, 2) := by decide +kernel
theorem dX3_ones_8 : decode cX3_ones 8 = .ok (.iload 4, 2) := by decide +kernel
theorem dX3_ones_10 : decode cX3_ones 10 = .ok (.ifCond .ne 23, 3) := by decide +kernel
theorem dX3_ones_13 : decode cX3_ones 13 = .ok (.iload_n 3, 1) := by decide +kernel
theorem dX3_ones_14 : decode cX3_ones 14 = .ok (.ifCond .lt 16, 3) := by decide +kernel
theorem dX3_ones_17 : decode cX3_ones 17 = .ok (.iload_n 3, 1) := by decide +kernel
theorem dX3_ones_18 : decode cX3_ones 18 = .ok (.aload_n 0, 1) := by decide +kernel
theorem dX3_ones_19 : decode cX3_ones 19 = .ok (.getfield 15, 3) := by decide +kernel
theorem dX3_ones_22 : decode cX3_ones 22 = .ok (.iload_n 1, 1) := by decide +kernel
theorem dX3_ones_23 : decode cX3_ones 23 = .ok (.aaload, 1) := by decide +kernel
theorem dX3_ones_24 : decode cX3_ones 24 = .ok (.getfield 66, 3) := by decide +kernel
theorem dX3_ones_27 : decode cX3_ones 27 = .ok (.if_icmp .le 6, 3) := by decide +kernel
theorem dX3_ones_30 : decode cX3_ones 30 = .ok (.iconst (-1), 1) := by decide +kernel
theorem dX3_ones_31 : decode cX3_ones 31 = .ok (.istore 4, 2) := by decide +kernel
theorem dX3_ones_33 : decode cX3_ones 33 = .ok (.iload 4, 2) := by decide +kernel
theorem dX3_ones_35 : decode cX3_ones 35 = .ok (.ifCond .eq 10, 3) := by decide +kernel
theorem dX3_ones_38 : decode cX3_ones 38 = .ok (.aload_n 0, 1) := by decide +kernel
theorem dX3_ones_39 : decode cX3_ones 39 = .ok (.iload 4, 2) := by decide +kernel
theorem dX3_ones_41 : decode cX3_ones 41 = .ok (.invokevirtual 56, 3) := by decide +kernel
theorem dX3_ones_44 : decode cX3_ones 44 = .ok (.ireturn, 1) := by decide +kernel
theorem dX3_ones_45 : decode cX3_ones 45 = .ok (.aload_n 0, 1) := by decide +kernel
theorem dX3_ones_46 : decode cX3_ones 46 = .ok (.iload_n 1, 1) := by decide +kernel
theorem dX3_ones_47 : decode cX3_ones 47 = .ok (.iload_n 2, 1) := by decide +kernel
theorem dX3_ones_48 : decode cX3_ones 48 = .ok (.invokevirtual 134, 3) := by decide +kernel
theorem dX3_ones_51 : decode cX3_ones 51 = .ok (.istore 5, 2) := by decide +kernel
theorem dX3_ones_53 : decode cX3_ones 53 = .ok (.aload_n 0, 1) := by decide +kernel
theorem dX3_ones_54 : decode cX3_ones 54 = .ok (.getfield 25, 3) := by decide +kernel
theorem dX3_ones_57 : decode cX3_ones 57 = .ok (.iload 5, 2) := by decide +kernel
theorem dX3_ones_59 : decode cX3_ones 59 = .ok (.iload_n 3, 1) := by decide +kernel
theorem dX3_ones_60 : decode cX3_ones 60 = .ok (.invokevirtual 137, 3) := by decide +kernel
theorem dX3_ones_63 : decode cX3_ones 63 = .ok (.ireturn, 1) := by decide +kernel
theorem dX3_kth_0 : decode cX3_kth 0 = .ok (.aload_n 0, 1) := by decide +kernel
theorem dX3_kth_1 : decode cX3_kth 1 = .ok (.iload_n 1, 1) := by decide +kernel
theorem dX3_kth_2 : decode cX3_kth 2 = .ok (.iload_n 2, 1) := by decide +kernel
theorem dX3_kth_3 : decode cX3_kth 3 = .ok (.iload_n 3, 1) := by decide +kernel
theorem dX3_kth_4 : decode cX3_kth 4 = .ok (.invokevirtual 140, 3) := by decide +kernel
theorem dX3_kth_7 : decode cX3_kth 7 = .ok (.istore 5, 2) := by decide +kernel
theorem dX3_kth_9 : decode cX3_kth 9 = .ok (.iload 5, 2) := by decide +kernel
theorem dX3_kth_11 : decode cX3_kth 11 = .ok (.ifCond .ne 20, 3) := by decide +kernel
theorem dX3_kth_14 : decode cX3_kth 14 = .ok (.iload 4, 2) := by decide +kernel
theorem dX3_kth_16 : decode cX3_kth 16 = .ok (.ifCond .lt 11, 3) := by decide +kernel
theorem dX3_kth_19 : decode cX3_kth 19 = .ok (.iload 4, 2) := by decide +kernel
theorem dX3_kth_21 : decode cX3_kth 21 = .ok (.iload_n 3, 1) := by decide +kernel
theorem dX3_kth_22 : decode cX3_kth 22 = .ok (.iload_n 2, 1) := by decide +kernel
theorem dX3_kth_23 : decode cX3_kth 23 = .ok (.isub, 1) := by decide +kernel
theorem dX3_kth_24 : decode cX3_kth 24 = .ok (.if_icmp .lt 7, 3) := by decide +kernel
theorem dX3_kth_27 : decode cX3_kth 27 = .ok (.bipush (-6), 2) := by decide +kernel
theorem dX3_kth_29 : decode cX3_kth 29 = .ok (.istore 5, 2) := by decide +kernel
theorem dX3_kth_31 : decode cX3_kth 31 = .ok (.iload 5, 2) := by decide +kernel
theorem dX3_kth_33 : decode cX3_kth 33 = .ok (.ifCond .eq 12, 3) := by decide +kernel
theorem dX3_kth_36 : decode cX3_kth 36 = .ok (.aload_n 0, 1) := by decide +kernel
theorem dX3_kth_37 : decode cX3_kth 37 = .ok (.iload 5, 2) := by decide +kernel
theorem dX3_kth_39 : decode cX3_kth 39 = .ok (.invokevirtual 56, 3) := by decide +kernel
theorem dX3_kth_42 : decode cX3_kth 42 = .ok (.goto 16, 3) := by decide +kernel
theorem dX3_kth_45 : decode cX3_kth 45 = .ok (.aload_n 0, 1) := by decide +kernel
theorem dX3_kth_46 : decode cX3_kth 46 = .ok (.iload_n 2, 1) := by decide +kernel
theorem dX3_kth_47 : decode cX3_kth 47 = .ok (.iload_n 3, 1) := by decide +kernel
theorem dX3_kth_48 : decode cX3_kth 48 = .ok (.iload 4, 2) := by decide +kernel
theorem dX3_kth_50 : decode cX3_kth 50 = .ok (.aload_n 0, 1) := by decide +kernel
theorem dX3_kth_51 : decode cX3_kth 51 = .ok (.iload_n 1, 1) := by decide +kernel
theorem dX3_kth_52 : decode cX3_kth 52 = .ok (.invokevirtual 143, 3) := by decide +kernel
theorem dX3_kth_55 : decode cX3_kth 55 = .ok (.invokevirtual 146, 3) := by decide +kernel
theorem dX3_kth_58 : decode cX3_kth 58 = .ok (.ireturn, 1) := by decide +kernel
theorem dX3_rank_0 : decode cX3_rank 0 = .ok (.aload_n 0, 1) := by decide +kernel
theorem dX3_rank_1 : decode cX3_rank 1 = .ok (.iload_n 1, 1) := by decide +kernel
theorem dX3_rank_2 : decode cX3_rank 2 = .ok (.iload_n 2, 1) := by decide +kernel
theorem dX3_rank_3 : decode cX3_rank 3 = .ok (.iload_n 3, 1) := by decide +kernel
theorem dX3_rank_4 : decode cX3_rank 4 = .ok (.invokevirtual 140, 3) := by decide +kernel
theorem dX3_rank_7 : decode cX3_rank 7 = .ok (.istore 5, 2) := by decide +kernel
theorem dX3_rank_9 : decode cX3_rank 9 = .ok (.iload 5, 2) := by decide +kernel
theorem dX3_rank_11 : decode cX3_rank 11 = .ok (.ifCond .eq 12, 3) := by decide +kernel
theorem dX3_rank_14 : decode cX3_rank 14 = .ok (.aload_n 0, 1) := by decide +kernel
theorem dX3_rank_15 : decode cX3_rank 15 = .ok (.iload 5, 2) := by decide +kernel
theorem dX3_rank_17 : decode cX3_rank 17 = .ok (.invokevirtual 56, 3) := by decide +kernel
theorem dX3_rank_20 : decode cX3_rank 20 = .ok (.goto 14, 3) := by decide +kernel
theorem dX3_rank_23 : decode cX3_rank 23 = .ok (.aload_n 0, 1) := by decide +kernel
theorem dX3_rank_24 : decode cX3_rank 24 = .ok (.getfield 25, 3) := by decide +kernel
theorem dX3_rank_27 : decode cX3_rank 27 = .ok (.iload_n 2, 1) := by decide +kernel
theorem dX3_rank_28 : decode cX3_rank 28 = .ok (.iload_n 3, 1) := by decide +kernel
theorem dX3_rank_29 : decode cX3_rank 29 = .ok (.iload 4, 2) := by decide +kernel
theorem dX3_rank_31 : decode cX3_rank 31 = .ok (.invokevirtual 150, 3) := by decide +kernel
theorem dX3_rank_34 : decode cX3_rank 34 = .ok (.ireturn, 1) := by decide +kernel
theorem dX3_between_0 : decode cX3_between 0 = .ok (.aload_n 0, 1) := by decide +kernel
theorem dX3_between_1 : decode cX3_between 1 = .ok (.iload_n 1, 1) := by decide +kernel
theorem dX3_between_2 : decode cX3_between 2 = .ok (.iload_n 2, 1) := by decide +kernel
theorem dX3_between_3 : decode cX3_between 3 = .ok (.iload_n 3, 1) := by decide +kernel
theorem dX3_between_4 : decode cX3_between 4 = .ok (.invokevirtual 140, 3) := by decide +kernel
theorem dX3_between_7 : decode cX3_between 7 = .ok (.istore 6, 2) := by decide +kernel
theorem dX3_between_9 : decode cX3_between 9 = .ok (.iload 6, 2) := by decide +kernel
theorem dX3_between_11 : decode cX3_between 11 = .ok (.ifCond .eq 12, 3) := by decide +kernel
theorem dX3_between_14 : decode cX3_between 14 = .ok (.aload_n 0, 1) := by decide +kernel
theorem dX3_between_15 : decode cX3_between 15 = .ok (.iload 6, 2) := by decide +kernel
theorem dX3_between_17 : decode cX3_between 17 = .ok (.invokevirtual 56, 3) := by decide +kernel
theorem dX3_between_20 : decode cX3_between 20 = .ok (.goto 16, 3) := by decide +kernel
theorem dX3_between_23 : decode cX3_between 23 = .ok (.aload_n 0, 1) := by decide +kernel
theorem dX3_between_24 : decode cX3_between 24 = .ok (.getfield 25, 3) := by decide +kernel
theorem dX3_between_27 : decode cX3_between 27 = .ok (.iload_n 2, 1) := by decide +kernel
theorem dX3_between_28 : decode cX3_between 28 = .ok (.iload_n 3, 1) := by decide +kernel
theorem dX3_between_29 : decode cX3_between 29 = .ok (.iload 4, 2) := by decide +kernel
theorem dX3_between_31 : decode cX3_between 31 = .ok (.iload 5, 2) := by decide +kernel
theorem dX3_between_33 : decode cX3_between 33 = .ok (.invokevirtual 153, 3) := by decide +kernel
theorem dX3_between_36 : decode cX3_between 36 = .ok (.ireturn, 1) := by decide +kernel
theorem dX3_next_0 : decode cX3_next 0 = .ok (.aload_n 0, 1) := by decide +kernel
theorem dX3_next_1 : decode cX3_next 1 = .ok (.iload_n 1, 1) := by decide +kernel
theorem dX3_next_2 : decode cX3_next 2 = .ok (.iload_n 2, 1) := by decide +kernel
theorem dX3_next_3 : decode cX3_next 3 = .ok (.iload_n 3, 1) := by decide +kernel
theorem dX3_next_4 : decode cX3_next 4 = .ok (.invokevirtual 140, 3) := by decide +kernel
theorem dX3_next_7 : decode cX3_next 7 = .ok (.istore 5, 2) := by decide +kernel
theorem dX3_next_9 : decode cX3_next 9 = .ok (.iload 5, 2) := by decide +kernel
theorem dX3_next_11 : decode cX3_next 11 = .ok (.ifCond .eq 12, 3) := by decide +kernel
theorem dX3_next_14 : decode cX3_next 14 = .ok (.aload_n 0, 1) := by decide +kernel
theorem dX3_next_15 : decode cX3_next 15 = .ok (.iload 5, 2) := by decide +kernel
theorem dX3_next_17 : decode cX3_next 17 = .ok (.invokevirtual 56, 3) := by decide +kernel
theorem dX3_next_20 : decode cX3_next 20 = .ok (.goto 18, 3) := by decide +kernel
theorem dX3_next_23 : decode cX3_next 23 = .ok (.aload_n 0, 1) := by decide +kernel
theorem dX3_next_24 : decode cX3_next 24 = .ok (.aload_n 0, 1) := by decide +kernel
theorem dX3_next_25 : decode cX3_next 25 = .ok (.getfield 25, 3) := by decide +kernel
theorem dX3_next_28 : decode cX3_next 28 = .ok (.iload_n 2, 1) := by decide +kernel
theorem dX3_next_29 : decode cX3_next 29 = .ok (.iload_n 3, 1) := by decide +kernel
theorem dX3_next_30 : decode cX3_next 30 = .ok (.iload 4, 2) := by decide +kernel
theorem dX3_next_32 : decode cX3_next 32 = .ok (.invokevirtual 124, 3) := by decide +kernel
theorem dX3_next_35 : decode cX3_next 35 = .ok (.invokevirtual 156, 3) := by decide +kernel
theorem dX3_next_38 : decode cX3_next 38 = .ok (.ireturn, 1) := by decide +kernel
theorem dX3_prior_0 : decode cX3_prior 0 = .ok (.aload_n 0, 1) := by decide +kernel
theorem dX3_prior_1 : decode cX3_prior 1 = .ok (.iload_n 1, 1) := by decide +kernel
theorem dX3_prior_2 : decode cX3_prior 2 = .ok (.iload_n 2, 1) := by decide +kernel
theorem dX3_prior_3 : decode cX3_prior 3 = .ok (.iload_n 3, 1) := by decide +kernel
theorem dX3_prior_4 : decode cX3_prior 4 = .ok (.invokevirtual 140, 3) := by decide +kernel
theorem dX3_prior_7 : decode cX3_prior 7 = .ok (.istore 5, 2) := by decide +kernel
theorem dX3_prior_9 : decode cX3_prior 9 = .ok (.iload 5, 2) := by decide +kernel
theorem dX3_prior_11 : decode cX3_prior 11 = .ok (.ifCond .eq 12, 3) := by decide +kernel
theorem dX3_prior_14 : decode cX3_prior 14 = .ok (.aload_n 0, 1) := by decide +kernel
theorem dX3_prior_15 : decode cX3_prior 15 = .ok (.iload 5, 2) := by decide +kernel
theorem dX3_prior_17 : decode cX3_prior 17 = .ok (.invokevirtual 56, 3) := by decide +kernel
theorem dX3_prior_20 : decode cX3_prior 20 = .ok (.goto 18, 3) := by decide +kernel
theorem dX3_prior_23 : decode cX3_prior 23 = .ok (.aload_n 0, 1) := by decide +kernel
theorem dX3_prior_24 : decode cX3_prior 24 = .ok (.aload_n 0, 1) := by decide +kernel
theorem dX3_prior_25 : decode cX3_prior 25 = .ok (.getfield 25, 3) := by decide +kernel
theorem dX3_prior_28 : decode cX3_prior 28 = .ok (.iload_n 2, 1) := by decide +kernel
theorem dX3_prior_29 : decode cX3_prior 29 = .ok (.iload_n 3, 1) := by decide +kernel
theorem dX3_prior_30 : decode cX3_prior 30 = .ok (.iload 4, 2) := by decide +kernel
theorem dX3_prior_32 : decode cX3_prior 32 = .ok (.invokevirtual 159, 3) := by decide +kernel
theorem dX3_prior_35 : decode cX3_prior 35 = .ok (.invokevirtual 156, 3) := by decide +kernel
theorem dX3_prior_38 : decode cX3_prior 38 = .ok (.ireturn, 1) := by decide +kernel
theorem dX3_median_0 : decode cX3_median 0 = .ok (.aload_n 0, 1) := by decide +kernel
theorem dX3_median_1 : decode cX3_median 1 = .ok (.iload_n 1, 1) := by decide +kernel
theorem dX3_median_2 : decode cX3_median 2 = .ok (.iload_n 2, 1) := by decide +kernel
theorem dX3_median_3 : decode cX3_median 3 = .ok (.iload_n 3, 1) := by decide +kernel
theorem dX3_median_4 : decode cX3_median 4 = .ok (.invokevirtual 140, 3) := by decide +kernel
theorem dX3_median_7 : decode cX3_median 7 = .ok (.istore 4, 2) := by decide +kernel
theorem dX3_median_9 : decode cX3_median 9 = .ok (.iload 4, 2) := by decide +kernel
theorem dX3_median_11 : decode cX3_median 11 = .ok (.ifCond .ne 12, 3) := by decide +kernel
theorem dX3_median_14 : decode cX3_median 14 = .ok (.iload_n 2, 1) := by decide +kernel
theorem dX3_median_15 : decode cX3_median 15 = .ok (.iload_n 3, 1) := by decide +kernel
theorem dX3_median_16 : decode cX3_median 16 = .ok (.if_icmp .ne 7, 3) := by decide +kernel
theorem dX3_median_19 : decode cX3_median 19 = .ok (.bipush (-6), 2) := by decide +kernel
theorem dX3_median_21 : decode cX3_median 21 = .ok (.istore 4, 2) := by decide +kernel
theorem dX3_median_23 : decode cX3_median 23 = .ok (.iload 4, 2) := by decide +kernel
theorem dX3_median_25 : decode cX3_median 25 = .ok (.ifCond .eq 12, 3) := by decide +kernel
theorem dX3_median_28 : decode cX3_median 28 = .ok (.aload_n 0, 1) := by decide +kernel
theorem dX3_median_29 : decode cX3_median 29 = .ok (.iload 4, 2) := by decide +kernel
theorem dX3_median_31 : decode cX3_median 31 = .ok (.invokevirtual 56, 3) := by decide +kernel
theorem dX3_median_34 : decode cX3_median 34 = .ok (.goto 21, 3) := by decide +kernel
theorem dX3_median_37 : decode cX3_median 37 = .ok (.aload_n 0, 1) := by decide +kernel
theorem dX3_median_38 : decode cX3_median 38 = .ok (.iload_n 2, 1) := by decide +kernel
theorem dX3_median_39 : decode cX3_median 39 = .ok (.iload_n 3, 1) := by decide +kernel
theorem dX3_median_40 : decode cX3_median 40 = .ok (.iload_n 3, 1) := by decide +kernel
theorem dX3_median_41 : decode cX3_median 41 = .ok (.iload_n 2, 1) := by decide +kernel
theorem dX3_median_42 : decode cX3_median 42 = .ok (.isub, 1) := by decide +kernel
theorem dX3_median_43 : decode cX3_median 43 = .ok (.iconst 1, 1) := by decide +kernel
theorem dX3_median_44 : decode cX3_median 44 = .ok (.isub, 1) := by decide +kernel
theorem dX3_median_45 : decode cX3_median 45 = .ok (.iconst 2, 1) := by decide +kernel
theorem dX3_median_46 : decode cX3_median 46 = .ok (.idiv, 1) := by decide +kernel
theorem dX3_median_47 : decode cX3_median 47 = .ok (.aload_n 0, 1) := by decide +kernel
theorem dX3_median_48 : decode cX3_median 48 = .ok (.iload_n 1, 1) := by decide +kernel
theorem dX3_median_49 : decode cX3_median 49 = .ok (.invokevirtual 143, 3) := by decide +kernel
theorem dX3_median_52 : decode cX3_median 52 = .ok (.invokevirtual 146, 3) := by decide +kernel
theorem dX3_median_55 : decode cX3_median 55 = .ok (.ireturn, 1) := by decide +kernel
theorem dX3_half_0 : decode cX3_half 0 = .ok (.aload_n 0, 1) := by decide +kernel
theorem dX3_half_1 : decode cX3_half 1 = .ok (.iload_n 1, 1) := by decide +kernel
theorem dX3_half_2 : decode cX3_half 2 = .ok (.iload_n 2, 1) := by decide +kernel
theorem dX3_half_3 : decode cX3_half 3 = .ok (.iload_n 3, 1) := by decide +kernel
theorem dX3_half_4 : decode cX3_half 4 = .ok (.invokevirtual 162, 3) := by decide +kernel
theorem dX3_half_7 : decode cX3_half 7 = .ok (.istore 4, 2) := by decide +kernel
theorem dX3_half_9 : decode cX3_half 9 = .ok (.iload 4, 2) := by decide +kernel
theorem dX3_half_11 : decode cX3_half 11 = .ok (.ifCond .eq 12, 3) := by decide +kernel
theorem dX3_half_14 : decode cX3_half 14 = .ok (.aload_n 0, 1) := by decide +kernel
theorem dX3_half_15 : decode cX3_half 15 = .ok (.iload 4, 2) := by decide +kernel
theorem dX3_half_17 : decode cX3_half 17 = .ok (.invokevirtual 56, 3) := by decide +kernel
theorem dX3_half_20 : decode cX3_half 20 = .ok (.goto 19, 3) := by decide +kernel
theorem dX3_half_23 : decode cX3_half 23 = .ok (.aload_n 0, 1) := by decide +kernel
theorem dX3_half_24 : decode cX3_half 24 = .ok (.aload_n 0, 1) := by decide +kernel
theorem dX3_half_25 : decode cX3_half 25 = .ok (.getfield 35, 3) := by decide +kernel
theorem dX3_half_28 : decode cX3_half 28 = .ok (.iload_n 3, 1) := by decide +kernel
theorem dX3_half_29 : decode cX3_half 29 = .ok (.iload_n 2, 1) := by decide +kernel
theorem dX3_half_30 : decode cX3_half 30 = .ok (.isub, 1) := by decide +kernel
theorem dX3_half_31 : decode cX3_half 31 = .ok (.iconst 2, 1) := by decide +kernel
theorem dX3_half_32 : decode cX3_half 32 = .ok (.idiv, 1) := by decide +kernel
theorem dX3_half_33 : decode cX3_half 33 = .ok (.invokevirtual 165, 3) := by decide +kernel
theorem dX3_half_36 : decode cX3_half 36 = .ok (.invokevirtual 156, 3) := by decide +kernel
theorem dX3_half_39 : decode cX3_half 39 = .ok (.ireturn, 1) := by decide +kernel
theorem dX3_often_0 : decode cX3_often 0 = .ok (.aload_n 0, 1) := by decide +kernel
theorem dX3_often_1 : decode cX3_often 1 = .ok (.iload_n 1, 1) := by decide +kernel
theorem dX3_often_2 : decode cX3_often 2 = .ok (.iload_n 2, 1) := by decide +kernel
theorem dX3_often_3 : decode cX3_often 3 = .ok (.iload_n 3, 1) := by decide +kernel
theorem dX3_often_4 : decode cX3_often 4 = .ok (.invokevirtual 162, 3) := by decide +kernel
theorem dX3_often_7 : decode cX3_often 7 = .ok (.istore 5, 2) := by decide +kernel
theorem dX3_often_9 : decode cX3_often 9 = .ok (.iload 5, 2) := by decide +kernel
theorem dX3_often_11 : decode cX3_often 11 = .ok (.ifCond .eq 12, 3) := by decide +kernel
theorem dX3_often_14 : decode cX3_often 14 = .ok (.aload_n 0, 1) := by decide +kernel
theorem dX3_often_15 : decode cX3_often 15 = .ok (.iload 5, 2) := by decide +kernel
theorem dX3_often_17 : decode cX3_often 17 = .ok (.invokevirtual 56, 3) := by decide +kernel
theorem dX3_often_20 : decode cX3_often 20 = .ok (.goto 16, 3) := by decide +kernel
theorem dX3_often_23 : decode cX3_often 23 = .ok (.aload_n 0, 1) := by decide +kernel
theorem dX3_often_24 : decode cX3_often 24 = .ok (.aload_n 0, 1) := by decide +kernel
theorem dX3_often_25 : decode cX3_often 25 = .ok (.getfield 35, 3) := by decide +kernel
theorem dX3_often_28 : decode cX3_often 28 = .ok (.iload 4, 2) := by decide +kernel
theorem dX3_often_30 : decode cX3_often 30 = .ok (.invokevirtual 168, 3) := by decide +kernel
theorem dX3_often_33 : decode cX3_often 33 = .ok (.invokevirtual 156, 3) := by decide +kernel
theorem dX3_often_36 : decode cX3_often 36 = .ok (.ireturn, 1) := by decide +kernel
theorem dX3_distinct_0 : decode cX3_distinct 0 = .ok (.aload_n 0, 1) := by decide +kernel
theorem dX3_distinct_1 : decode cX3_distinct 1 = .ok (.iload_n 1, 1) := by decide +kernel
theorem dX3_distinct_2 : decode cX3_distinct 2 = .ok (.iload_n 2, 1) := by decide +kernel
theorem dX3_distinct_3 : decode cX3_distinct 3 = .ok (.iload_n 3, 1) := by decide +kernel
theorem dX3_distinct_4 : decode cX3_distinct 4 = .ok (.invokevirtual 162, 3) := by decide +kernel
theorem dX3_distinct_7 : decode cX3_distinct 7 = .ok (.istore 4, 2) := by decide +kernel
theorem dX3_distinct_9 : decode cX3_distinct 9 = .ok (.iload 4, 2) := by decide +kernel
theorem dX3_distinct_11 : decode cX3_distinct 11 = .ok (.ifCond .eq 12, 3) := by decide +kernel
theorem dX3_distinct_14 : decode cX3_distinct 14 = .ok (.aload_n 0, 1) := by decide +kernel
theorem dX3_distinct_15 : decode cX3_distinct 15 = .ok (.iload 4, 2) := by decide +kernel
theorem dX3_distinct_17 : decode cX3_distinct 17 = .ok (.invokevirtual 56, 3) := by decide +kernel
theorem dX3_distinct_20 : decode cX3_distinct 20 = .ok (.goto 10, 3) := by decide +kernel
theorem dX3_distinct_23 : decode cX3_distinct 23 = .ok (.aload_n 0, 1) := by decide +kernel
theorem dX3_distinct_24 : decode cX3_distinct 24 = .ok (.getfield 35, 3) := by decide +kernel
theorem dX3_distinct_27 : decode cX3_distinct 27 = .ok (.invokevirtual 171, 3) := by decide +kernel
theorem dX3_distinct_30 : decode cX3_distinct 30 = .ok (.ireturn, 1) := by decide +kernel
theorem dX3_sum_0 : decode cX3_sum 0 = .ok (.aload_n 0, 1) := by decide +kernel
theorem dX3_sum_1 : decode cX3_sum 1 = .ok (.iload_n 1, 1) := by decide +kernel
theorem dX3_sum_2 : decode cX3_sum 2 = .ok (.iload_n 2, 1) := by decide +kernel
theorem dX3_sum_3 : decode cX3_sum 3 = .ok (.iload_n 3, 1) := by decide +kernel
theorem dX3_sum_4 : decode cX3_sum 4 = .ok (.invokevirtual 140, 3) := by decide +kernel
theorem dX3_sum_7 : decode cX3_sum 7 = .ok (.istore 5, 2) := by decide +kernel
theorem dX3_sum_9 : decode cX3_sum 9 = .ok (.iload 5, 2) := by decide +kernel
theorem dX3_sum_11 : decode cX3_sum 11 = .ok (.ifCond .eq 12, 3) := by decide +kernel
theorem dX3_sum_14 : decode cX3_sum 14 = .ok (.aload_n 0, 1) := by decide +kernel
theorem dX3_sum_15 : decode cX3_sum 15 = .ok (.iload 5, 2) := by decide +kernel
theorem dX3_sum_17 : decode cX3_sum 17 = .ok (.invokevirtual 56, 3) := by decide +kernel
theorem dX3_sum_20 : decode cX3_sum 20 = .ok (.pop, 1) := by decide +kernel
theorem dX3_sum_21 : decode cX3_sum 21 = .ok (.lconst 0, 1) := by decide +kernel
theorem dX3_sum_22 : decode cX3_sum 22 = .ok (.lreturn, 1) := by decide +kernel
theorem dX3_sum_23 : decode cX3_sum 23 = .ok (.aload_n 0, 1) := by decide +kernel
theorem dX3_sum_24 : decode cX3_sum 24 = .ok (.getfield 25, 3) := by decide +kernel
theorem dX3_sum_27 : decode cX3_sum 27 = .ok (.iload_n 2, 1) := by decide +kernel
theorem dX3_sum_28 : decode cX3_sum 28 = .ok (.iload_n 3, 1) := by decide +kernel
theorem dX3_sum_29 : decode cX3_sum 29 = .ok (.iload 4, 2) := by decide +kernel
theorem dX3_sum_31 : decode cX3_sum 31 = .ok (.invokevirtual 175, 3) := by decide +kernel
theorem dX3_sum_34 : decode cX3_sum 34 = .ok (.lreturn, 1) := by decide +kernel
theorem dX3_differ_0 : decode cX3_differ 0 = .ok (.aload_n 0, 1) := by decide +kernel
theorem dX3_differ_1 : decode cX3_differ 1 = .ok (.iload_n 1, 1) := by decide +kernel
theorem dX3_differ_2 : decode cX3_differ 2 = .ok (.invokevirtual 121, 3) := by decide +kernel
theorem dX3_differ_5 : decode cX3_differ 5 = .ok (.istore 6, 2) := by decide +kernel
theorem dX3_differ_7 : decode cX3_differ 7 = .ok (.iload 6, 2) := by decide +kernel
theorem dX3_differ_9 : decode cX3_differ 9 = .ok (.ifCond .ne 11, 3) := by decide +kernel
theorem dX3_differ_12 : decode cX3_differ 12 = .ok (.aload_n 0, 1) := by decide +kernel
theorem dX3_differ_13 : decode cX3_differ 13 = .ok (.iload 4, 2) := by decide +kernel
theorem dX3_differ_15 : decode cX3_differ 15 = .ok (.invokevirtual 121, 3) := by decide +kernel
theorem dX3_differ_18 : decode cX3_differ 18 = .ok (.istore 6, 2) := by decide +kernel
theorem dX3_differ_20 : decode cX3_differ 20 = .ok (.iload 6, 2) := by decide +kernel
theorem dX3_differ_22 : decode cX3_differ 22 = .ok (.ifCond .ne 12, 3) := by decide +kernel
theorem dX3_differ_25 : decode cX3_differ 25 = .ok (.aload_n 0, 1) := by decide +kernel
theorem dX3_differ_26 : decode cX3_differ 26 = .ok (.iload_n 1, 1) := by decide +kernel
theorem dX3_differ_27 : decode cX3_differ 27 = .ok (.iload_n 2, 1) := by decide +kernel
theorem dX3_differ_28 : decode cX3_differ 28 = .ok (.iload_n 3, 1) := by decide +kernel
theorem dX3_differ_29 : decode cX3_differ 29 = .ok (.invokevirtual 84, 3) := by decide +kernel
theorem dX3_differ_32 : decode cX3_differ 32 = .ok (.istore 6, 2) := by decide +kernel
theorem dX3_differ_34 : decode cX3_differ 34 = .ok (.iload 6, 2) := by decide +kernel
theorem dX3_differ_36 : decode cX3_differ 36 = .ok (.ifCond .ne 30, 3) := by decide +kernel
theorem dX3_differ_39 : decode cX3_differ 39 = .ok (.iload 5, 2) := by decide +kernel
theorem dX3_differ_41 : decode cX3_differ 41 = .ok (.ifCond .lt 22, 3) := by decide +kernel
theorem dX3_differ_44 : decode cX3_differ 44 = .ok (.iload 5, 2) := by decide +kernel
theorem dX3_differ_46 : decode cX3_differ 46 = .ok (.aload_n 0, 1) := by decide +kernel
theorem dX3_differ_47 : decode cX3_differ 47 = .ok (.getfield 15, 3) := by decide +kernel
theorem dX3_differ_50 : decode cX3_differ 50 = .ok (.iload 4, 2) := by decide +kernel
theorem dX3_differ_52 : decode cX3_differ 52 = .ok (.aaload, 1) := by decide +kernel
theorem dX3_differ_53 : decode cX3_differ 53 = .ok (.getfield 66, 3) := by decide +kernel
theorem dX3_differ_56 : decode cX3_differ 56 = .ok (.iload_n 3, 1) := by decide +kernel
theorem dX3_differ_57 : decode cX3_differ 57 = .ok (.iload_n 2, 1) := by decide +kernel
theorem dX3_differ_58 : decode cX3_differ 58 = .ok (.isub, 1) := by decide +kernel
theorem dX3_differ_59 : decode cX3_differ 59 = .ok (.isub, 1) := by decide +kernel
theorem dX3_differ_60 : decode cX3_differ 60 = .ok (.if_icmp .le 6, 3) := by decide +kernel
theorem dX3_differ_63 : decode cX3_differ 63 = .ok (.iconst (-1), 1) := by decide +kernel
theorem dX3_differ_64 : decode cX3_differ 64 = .ok (.istore 6, 2) := by decide +kernel
theorem dX3_differ_66 : decode cX3_differ 66 = .ok (.iload 6, 2) := by decide +kernel
theorem dX3_differ_68 : decode cX3_differ 68 = .ok (.ifCond .eq 10, 3) := by decide +kernel
theorem dX3_differ_71 : decode cX3_differ 71 = .ok (.aload_n 0, 1) := by decide +kernel
theorem dX3_differ_72 : decode cX3_differ 72 = .ok (.iload 6, 2) := by decide +kernel
theorem dX3_differ_74 : decode cX3_differ 74 = .ok (.invokevirtual 56, 3) := by decide +kernel
theorem dX3_differ_77 : decode cX3_differ 77 = .ok (.ireturn, 1) := by decide +kernel
theorem dX3_differ_78 : decode cX3_differ 78 = .ok (.aload_n 0, 1) := by decide +kernel
theorem dX3_differ_79 : decode cX3_differ 79 = .ok (.getfield 25, 3) := by decide +kernel
theorem dX3_differ_82 : decode cX3_differ 82 = .ok (.aload_n 0, 1) := by decide +kernel
theorem dX3_differ_83 : decode cX3_differ 83 = .ok (.getfield 15, 3) := by decide +kernel
theorem dX3_differ_86 : decode cX3_differ 86 = .ok (.iload_n 1, 1) := by decide +kernel
theorem dX3_differ_87 : decode cX3_differ 87 = .ok (.aaload, 1) := by decide +kernel
theorem dX3_differ_88 : decode cX3_differ 88 = .ok (.invokevirtual 88, 3) := by decide +kernel
theorem dX3_differ_91 : decode cX3_differ 91 = .ok (.aload_n 0, 1) := by decide +kernel
theorem dX3_differ_92 : decode cX3_differ 92 = .ok (.getfield 29, 3) := by decide +kernel
theorem dX3_differ_95 : decode cX3_differ 95 = .ok (.aload_n 0, 1) := by decide +kernel
theorem dX3_differ_96 : decode cX3_differ 96 = .ok (.getfield 15, 3) := by decide +kernel
theorem dX3_differ_99 : decode cX3_differ 99 = .ok (.iload 4, 2) := by decide +kernel
theorem dX3_differ_101 : decode cX3_differ 101 = .ok (.aaload, 1) := by decide +kernel
theorem dX3_differ_102 : decode cX3_differ 102 = .ok (.invokevirtual 88, 3) := by decide +kernel
theorem dX3_differ_105 : decode cX3_differ 105 = .ok (.aload_n 0, 1) := by decide +kernel
theorem dX3_differ_106 : decode cX3_differ 106 = .ok (.getfield 35, 3) := by decide +kernel
theorem dX3_differ_109 : decode cX3_differ 109 = .ok (.invokevirtual 179, 3) := by decide +kernel
theorem dX3_differ_112 : decode cX3_differ 112 = .ok (.aload_n 0, 1) := by decide +kernel
theorem dX3_differ_113 : decode cX3_differ 113 = .ok (.getfield 35, 3) := by decide +kernel
theorem dX3_differ_116 : decode cX3_differ 116 = .ok (.aload_n 0, 1) := by decide +kernel
theorem dX3_differ_117 : decode cX3_differ 117 = .ok (.getfield 25, 3) := by decide +kernel
theorem dX3_differ_120 : decode cX3_differ 120 = .ok (.iload_n 2, 1) := by decide +kernel
theorem dX3_differ_121 : decode cX3_differ 121 = .ok (.iload_n 3, 1) := by decide +kernel
theorem dX3_differ_122 : decode cX3_differ 122 = .ok (.iconst 1, 1) := by decide +kernel
theorem dX3_differ_123 : decode cX3_differ 123 = .ok (.invokevirtual 182, 3) := by decide +kernel
theorem dX3_differ_126 : decode cX3_differ 126 = .ok (.aload_n 0, 1) := by decide +kernel
theorem dX3_differ_127 : decode cX3_differ 127 = .ok (.getfield 35, 3) := by decide +kernel
theorem dX3_differ_130 : decode cX3_differ 130 = .ok (.aload_n 0, 1) := by decide +kernel
theorem dX3_differ_131 : decode cX3_differ 131 = .ok (.getfield 29, 3) := by decide +kernel
theorem dX3_differ_134 : decode cX3_differ 134 = .ok (.iload 5, 2) := by decide +kernel
theorem dX3_differ_136 : decode cX3_differ 136 = .ok (.iload 5, 2) := by decide +kernel
theorem dX3_differ_138 : decode cX3_differ 138 = .ok (.iload_n 3, 1) := by decide +kernel
theorem dX3_differ_139 : decode cX3_differ 139 = .ok (.iload_n 2, 1) := by decide +kernel
theorem dX3_differ_140 : decode cX3_differ 140 = .ok (.isub, 1) := by decide +kernel
theorem dX3_differ_141 : decode cX3_differ 141 = .ok (.iadd, 1) := by decide +kernel
theorem dX3_differ_142 : decode cX3_differ 142 = .ok (.iconst (-1), 1) := by decide +kernel
theorem dX3_differ_143 : decode cX3_differ 143 = .ok (.invokevirtual 182, 3) := by decide +kernel
theorem dX3_differ_146 : decode cX3_differ 146 = .ok (.aload_n 0, 1) := by decide +kernel
theorem dX3_differ_147 : decode cX3_differ 147 = .ok (.aload_n 0, 1) := by decide +kernel
theorem dX3_differ_148 : decode cX3_differ 148 = .ok (.getfield 35, 3) := by decide +kernel
theorem dX3_differ_151 : decode cX3_differ 151 = .ok (.invokevirtual 186, 3) := by decide +kernel
theorem dX3_differ_154 : decode cX3_differ 154 = .ok (.invokevirtual 156, 3) := by decide +kernel
theorem dX3_differ_157 : decode cX3_differ 157 = .ok (.ireturn, 1) := by decide +kernel
theorem dX3_first_0 : decode cX3_first 0 = .ok (.aload_n 0, 1) := by decide +kernel
theorem dX3_first_1 : decode cX3_first 1 = .ok (.iload_n 1, 1) := by decide +kernel
theorem dX3_first_2 : decode cX3_first 2 = .ok (.invokevirtual 121, 3) := by decide +kernel
theorem dX3_first_5 : decode cX3_first 5 = .ok (.istore_n 3, 1) := by decide +kernel
theorem dX3_first_6 : decode cX3_first 6 = .ok (.iload_n 3, 1) := by decide +kernel
theorem dX3_first_7 : decode cX3_first 7 = .ok (.ifCond .ne 9, 3) := by decide +kernel
theorem dX3_first_10 : decode cX3_first 10 = .ok (.aload_n 0, 1) := by decide +kernel
theorem dX3_first_11 : decode cX3_first 11 = .ok (.iload_n 2, 1) := by decide +kernel
theorem dX3_first_12 : decode cX3_first 12 = .ok (.invokevirtual 121, 3) := by decide +kernel
theorem dX3_first_15 : decode cX3_first 15 = .ok (.istore_n 3, 1) := by decide +kernel
theorem dX3_first_16 : decode cX3_first 16 = .ok (.iload_n 3, 1) := by decide +kernel
theorem dX3_first_17 : decode cX3_first 17 = .ok (.ifCond .eq 9, 3) := by decide +kernel
theorem dX3_first_20 : decode cX3_first 20 = .ok (.aload_n 0, 1) := by decide +kernel
theorem dX3_first_21 : decode cX3_first 21 = .ok (.iload_n 3, 1) := by decide +kernel
theorem dX3_first_22 : decode cX3_first 22 = .ok (.invokevirtual 56, 3) := by decide +kernel
theorem dX3_first_25 : decode cX3_first 25 = .ok (.ireturn, 1) := by decide +kernel
theorem dX3_first_26 : decode cX3_first 26 = .ok (.aload_n 0, 1) := by decide +kernel
theorem dX3_first_27 : decode cX3_first 27 = .ok (.getfield 25, 3) := by decide +kernel
theorem dX3_first_30 : decode cX3_first 30 = .ok (.aload_n 0, 1) := by decide +kernel
theorem dX3_first_31 : decode cX3_first 31 = .ok (.getfield 15, 3) := by decide +kernel
theorem dX3_first_34 : decode cX3_first 34 = .ok (.iload_n 1, 1) := by decide +kernel
theorem dX3_first_35 : decode cX3_first 35 = .ok (.aaload, 1) := by decide +kernel
theorem dX3_first_36 : decode cX3_first 36 = .ok (.invokevirtual 88, 3) := by decide +kernel
theorem dX3_first_39 : decode cX3_first 39 = .ok (.aload_n 0, 1) := by decide +kernel
theorem dX3_first_40 : decode cX3_first 40 = .ok (.getfield 29, 3) := by decide +kernel
theorem dX3_first_43 : decode cX3_first 43 = .ok (.aload_n 0, 1) := by decide +kernel
theorem dX3_first_44 : decode cX3_first 44 = .ok (.getfield 15, 3) := by decide +kernel
theorem dX3_first_47 : decode cX3_first 47 = .ok (.iload_n 2, 1) := by decide +kernel
theorem dX3_first_48 : decode cX3_first 48 = .ok (.aaload, 1) := by decide +kernel
theorem dX3_first_49 : decode cX3_first 49 = .ok (.invokevirtual 88, 3) := by decide +kernel
theorem dX3_first_52 : decode cX3_first 52 = .ok (.aload_n 0, 1) := by decide +kernel
theorem dX3_first_53 : decode cX3_first 53 = .ok (.aload_n 0, 1) := by decide +kernel
theorem dX3_first_54 : decode cX3_first 54 = .ok (.getfield 25, 3) := by decide +kernel
theorem dX3_first_57 : decode cX3_first 57 = .ok (.aload_n 0, 1) := by decide +kernel
theorem dX3_first_58 : decode cX3_first 58 = .ok (.getfield 29, 3) := by decide +kernel
theorem dX3_first_61 : decode cX3_first 61 = .ok (.invokevirtual 189, 3) := by decide +kernel
theorem dX3_first_64 : decode cX3_first 64 = .ok (.invokevirtual 156, 3) := by decide +kernel
theorem dX3_first_67 : decode cX3_first 67 = .ok (.ireturn, 1) := by decide +kernel
theorem dX3_step_0 : decode cX3_step 0 = .ok (.iload_n 1, 1) := by decide +kernel
theorem dX3_step_1 : decode cX3_step 1 = .ok (.ifCond .lt 11, 3) := by decide +kernel
theorem dX3_step_4 : decode cX3_step 4 = .ok (.iload_n 1, 1) := by decide +kernel
theorem dX3_step_5 : decode cX3_step 5 = .ok (.aload_n 0, 1) := by decide +kernel
theorem dX3_step_6 : decode cX3_step 6 = .ok (.getfield 193, 3) := by decide +kernel
theorem dX3_step_9 : decode cX3_step 9 = .ok (.if_icmp .lt 10, 3) := by decide +kernel
theorem dX3_step_12 : decode cX3_step 12 = .ok (.aload_n 0, 1) := by decide +kernel
theorem dX3_step_13 : decode cX3_step 13 = .ok (.bipush (-6), 2) := by decide +kernel
theorem dX3_step_15 : decode cX3_step 15 = .ok (.invokevirtual 56, 3) := by decide +kernel
theorem dX3_step_18 : decode cX3_step 18 = .ok (.ireturn, 1) := by decide +kernel
theorem dX3_step_19 : decode cX3_step 19 = .ok (.aload_n 0, 1) := by decide +kernel
theorem dX3_step_20 : decode cX3_step 20 = .ok (.getfield 39, 3) := by decide +kernel
theorem dX3_step_23 : decode cX3_step 23 = .ok (.iload_n 1, 1) := by decide +kernel
theorem dX3_step_24 : decode cX3_step 24 = .ok (.iaload, 1) := by decide +kernel
theorem dX3_step_25 : decode cX3_step 25 = .ok (.ireturn, 1) := by decide +kernel
theorem dX3_found_0 : decode cX3_found 0 = .ok (.iload_n 1, 1) := by decide +kernel
theorem dX3_found_1 : decode cX3_found 1 = .ok (.iconst (-1), 1) := by decide +kernel
theorem dX3_found_2 : decode cX3_found 2 = .ok (.if_icmp .gt 9, 3) := by decide +kernel
theorem dX3_found_5 : decode cX3_found 5 = .ok (.iload_n 1, 1) := by decide +kernel
theorem dX3_found_6 : decode cX3_found 6 = .ok (.bipush (-6), 2) := by decide +kernel
theorem dX3_found_8 : decode cX3_found 8 = .ok (.if_icmp .ge 9, 3) := by decide +kernel
theorem dX3_found_11 : decode cX3_found 11 = .ok (.aload_n 0, 1) := by decide +kernel
theorem dX3_found_12 : decode cX3_found 12 = .ok (.iconst (-1), 1) := by decide +kernel
theorem dX3_found_13 : decode cX3_found 13 = .ok (.invokevirtual 56, 3) := by decide +kernel
theorem dX3_found_16 : decode cX3_found 16 = .ok (.ireturn, 1) := by decide +kernel
theorem dX3_found_17 : decode cX3_found 17 = .ok (.aload_n 0, 1) := by decide +kernel
theorem dX3_found_18 : decode cX3_found 18 = .ok (.getfield 42, 3) := by decide +kernel
theorem dX3_found_21 : decode cX3_found 21 = .ok (.iload_n 1, 1) := by decide +kernel
theorem dX3_found_22 : decode cX3_found 22 = .ok (.ineg, 1) := by decide +kernel
theorem dX3_found_23 : decode cX3_found 23 = .ok (.iaload, 1) := by decide +kernel
theorem dX3_found_24 : decode cX3_found 24 = .ok (.ireturn, 1) := by decide +kernel
theorem dX3_told_0 : decode cX3_told 0 = .ok (.iload_n 1, 1) := by decide +kernel
theorem dX3_told_1 : decode cX3_told 1 = .ok (.iconst (-1), 1) := by decide +kernel
theorem dX3_told_2 : decode cX3_told 2 = .ok (.if_icmp .gt 20, 3) := by decide +kernel
theorem dX3_told_5 : decode cX3_told 5 = .ok (.iload_n 1, 1) := by decide +kernel
theorem dX3_told_6 : decode cX3_told 6 = .ok (.bipush (-6), 2) := by decide +kernel
theorem dX3_told_8 : decode cX3_told 8 = .ok (.if_icmp .lt 14, 3) := by decide +kernel
theorem dX3_told_11 : decode cX3_told 11 = .ok (.aload_n 0, 1) := by decide +kernel
theorem dX3_told_12 : decode cX3_told 12 = .ok (.getfield 42, 3) := by decide +kernel
theorem dX3_told_15 : decode cX3_told 15 = .ok (.iload_n 1, 1) := by decide +kernel
theorem dX3_told_16 : decode cX3_told 16 = .ok (.ineg, 1) := by decide +kernel
theorem dX3_told_17 : decode cX3_told 17 = .ok (.dup2, 1) := by decide +kernel
theorem dX3_told_18 : decode cX3_told 18 = .ok (.iaload, 1) := by decide +kernel
theorem dX3_told_19 : decode cX3_told 19 = .ok (.iconst 1, 1) := by decide +kernel
theorem dX3_told_20 : decode cX3_told 20 = .ok (.iadd, 1) := by decide +kernel
theorem dX3_told_21 : decode cX3_told 21 = .ok (.iastore, 1) := by decide +kernel
theorem dX3_told_22 : decode cX3_told 22 = .ok (.iload_n 1, 1) := by decide +kernel
theorem dX3_told_23 : decode cX3_told 23 = .ok (.ireturn, 1) := by decide +kernel
theorem dX3_foundOrNone_0 : decode cX3_foundOrNone 0 = .ok (.iload_n 1, 1) := by decide +kernel
theorem dX3_foundOrNone_1 : decode cX3_foundOrNone 1 = .ok (.bipush (-6), 2) := by decide +kernel
theorem dX3_foundOrNone_3 : decode cX3_foundOrNone 3 = .ok (.if_icmp .ne 12, 3) := by decide +kernel
theorem dX3_foundOrNone_6 : decode cX3_foundOrNone 6 = .ok (.aload_n 0, 1) := by decide +kernel
theorem dX3_foundOrNone_7 : decode cX3_foundOrNone 7 = .ok (.bipush (-6), 2) := by decide +kernel
theorem dX3_foundOrNone_9 : decode cX3_foundOrNone 9 = .ok (.invokevirtual 56, 3) := by decide +kernel
theorem dX3_foundOrNone_12 : decode cX3_foundOrNone 12 = .ok (.goto 4, 3) := by decide +kernel
theorem dX3_foundOrNone_15 : decode cX3_foundOrNone 15 = .ok (.iload_n 1, 1) := by decide +kernel
theorem dX3_foundOrNone_16 : decode cX3_foundOrNone 16 = .ok (.ireturn, 1) := by decide +kernel
theorem dX3_isShelfPlace_0 : decode cX3_isShelfPlace 0 = .ok (.iload_n 0, 1) := by decide +kernel
theorem dX3_isShelfPlace_1 : decode cX3_isShelfPlace 1 = .ok (.ifCond .lt 13, 3) := by decide +kernel
theorem dX3_isShelfPlace_4 : decode cX3_isShelfPlace 4 = .ok (.iload_n 0, 1) := by decide +kernel
theorem dX3_isShelfPlace_5 : decode cX3_isShelfPlace 5 = .ok (.bipush 12, 2) := by decide +kernel
theorem dX3_isShelfPlace_7 : decode cX3_isShelfPlace 7 = .ok (.if_icmp .ge 7, 3) := by decide +kernel
theorem dX3_isShelfPlace_10 : decode cX3_isShelfPlace 10 = .ok (.iconst 1, 1) := by decide +kernel
theorem dX3_isShelfPlace_11 : decode cX3_isShelfPlace 11 = .ok (.goto 4, 3) := by decide +kernel
theorem dX3_isShelfPlace_14 : decode cX3_isShelfPlace 14 = .ok (.iconst 0, 1) := by decide +kernel
theorem dX3_isShelfPlace_15 : decode cX3_isShelfPlace 15 = .ok (.ireturn, 1) := by decide +kernel
theorem dX3_isValue_0 : decode cX3_isValue 0 = .ok (.iload_n 0, 1) := by decide +kernel
theorem dX3_isValue_1 : decode cX3_isValue 1 = .ok (.ifCond .lt 14, 3) := by decide +kernel
theorem dX3_isValue_4 : decode cX3_isValue 4 = .ok (.iload_n 0, 1) := by decide +kernel
theorem dX3_isValue_5 : decode cX3_isValue 5 = .ok (.sipush 1023, 3) := by decide +kernel
theorem dX3_isValue_8 : decode cX3_isValue 8 = .ok (.if_icmp .gt 7, 3) := by decide +kernel
theorem dX3_isValue_11 : decode cX3_isValue 11 = .ok (.iconst 1, 1) := by decide +kernel
theorem dX3_isValue_12 : decode cX3_isValue 12 = .ok (.goto 4, 3) := by decide +kernel
theorem dX3_isValue_15 : decode cX3_isValue 15 = .ok (.iconst 0, 1) := by decide +kernel
theorem dX3_isValue_16 : decode cX3_isValue 16 = .ok (.ireturn, 1) := by decide +kernel
theorem dX3_isVersion_0 : decode cX3_isVersion 0 = .ok (.iload_n 1, 1) := by decide +kernel
theorem dX3_isVersion_1 : decode cX3_isVersion 1 = .ok (.ifCond .lt 15, 3) := by decide +kernel
theorem dX3_isVersion_4 : decode cX3_isVersion 4 = .ok (.iload_n 1, 1) := by decide +kernel
theorem dX3_isVersion_5 : decode cX3_isVersion 5 = .ok (.aload_n 0, 1) := by decide +kernel
theorem dX3_isVersion_6 : decode cX3_isVersion 6 = .ok (.getfield 48, 3) := by decide +kernel
theorem dX3_isVersion_9 : decode cX3_isVersion 9 = .ok (.if_icmp .ge 7, 3) := by decide +kernel
theorem dX3_isVersion_12 : decode cX3_isVersion 12 = .ok (.iconst 1, 1) := by decide +kernel
theorem dX3_isVersion_13 : decode cX3_isVersion 13 = .ok (.goto 4, 3) := by decide +kernel
theorem dX3_isVersion_16 : decode cX3_isVersion 16 = .ok (.iconst 0, 1) := by decide +kernel
theorem dX3_isVersion_17 : decode cX3_isVersion 17 = .ok (.ireturn, 1) := by decide +kernel
theorem dX3_findingOfPlace_0 : decode cX3_findingOfPlace 0 = .ok (.iload_n 1, 1) := by decide +kernel
theorem dX3_findingOfPlace_1 : decode cX3_findingOfPlace 1 = .ok (.invokestatic 63, 3) := by decide +kernel
theorem dX3_findingOfPlace_4 : decode cX3_findingOfPlace 4 = .ok (.ifCond .ne 5, 3) := by decide +kernel
theorem dX3_findingOfPlace_7 : decode cX3_findingOfPlace 7 = .ok (.iconst (-1), 1) := by decide +kernel
theorem dX3_findingOfPlace_8 : decode cX3_findingOfPlace 8 = .ok (.ireturn, 1) := by decide +kernel
theorem dX3_findingOfPlace_9 : decode cX3_findingOfPlace 9 = .ok (.aload_n 0, 1) := by decide +kernel
theorem dX3_findingOfPlace_10 : decode cX3_findingOfPlace 10 = .ok (.getfield 15, 3) := by decide +kernel
theorem dX3_findingOfPlace_13 : decode cX3_findingOfPlace 13 = .ok (.iload_n 1, 1) := by decide +kernel
theorem dX3_findingOfPlace_14 : decode cX3_findingOfPlace 14 = .ok (.aaload, 1) := by decide +kernel
theorem dX3_findingOfPlace_15 : decode cX3_findingOfPlace 15 = .ok (.ifnonnull 8, 3) := by decide +kernel
theorem dX3_findingOfPlace_18 : decode cX3_findingOfPlace 18 = .ok (.bipush (-2), 2) := by decide +kernel
theorem dX3_findingOfPlace_20 : decode cX3_findingOfPlace 20 = .ok (.goto 4, 3) := by decide +kernel
theorem dX3_findingOfPlace_23 : decode cX3_findingOfPlace 23 = .ok (.iconst 0, 1) := by decide +kernel
theorem dX3_findingOfPlace_24 : decode cX3_findingOfPlace 24 = .ok (.ireturn, 1) := by decide +kernel
theorem dX3_findingOfGrown_0 : decode cX3_findingOfGrown 0 = .ok (.aload_n 0, 1) := by decide +kernel
theorem dX3_findingOfGrown_1 : decode cX3_findingOfGrown 1 = .ok (.iload_n 1, 1) := by decide +kernel
theorem dX3_findingOfGrown_2 : decode cX3_findingOfGrown 2 = .ok (.invokevirtual 121, 3) := by decide +kernel
theorem dX3_findingOfGrown_5 : decode cX3_findingOfGrown 5 = .ok (.istore_n 2, 1) := by decide +kernel
theorem dX3_findingOfGrown_6 : decode cX3_findingOfGrown 6 = .ok (.iload_n 2, 1) := by decide +kernel
theorem dX3_findingOfGrown_7 : decode cX3_findingOfGrown 7 = .ok (.ifCond .eq 5, 3) := by decide +kernel
theorem dX3_findingOfGrown_10 : decode cX3_findingOfGrown 10 = .ok (.iload_n 2, 1) := by decide +kernel
theorem dX3_findingOfGrown_11 : decode cX3_findingOfGrown 11 = .ok (.ireturn, 1) := by decide +kernel
theorem dX3_findingOfGrown_12 : decode cX3_findingOfGrown 12 = .ok (.aload_n 0, 1) := by decide +kernel
theorem dX3_findingOfGrown_13 : decode cX3_findingOfGrown 13 = .ok (.getfield 18, 3) := by decide +kernel
theorem dX3_findingOfGrown_16 : decode cX3_findingOfGrown 16 = .ok (.iload_n 1, 1) := by decide +kernel
theorem dX3_findingOfGrown_17 : decode cX3_findingOfGrown 17 = .ok (.iaload, 1) := by decide +kernel
theorem dX3_findingOfGrown_18 : decode cX3_findingOfGrown 18 = .ok (.ifCond .ne 7, 3) := by decide +kernel
theorem dX3_findingOfGrown_21 : decode cX3_findingOfGrown 21 = .ok (.iconst 0, 1) := by decide +kernel
theorem dX3_findingOfGrown_22 : decode cX3_findingOfGrown 22 = .ok (.goto 5, 3) := by decide +kernel
theorem dX3_findingOfGrown_25 : decode cX3_findingOfGrown 25 = .ok (.bipush (-3), 2) := by decide +kernel
theorem dX3_findingOfGrown_27 : decode cX3_findingOfGrown 27 = .ok (.ireturn, 1) := by decide +kernel
theorem dX3_findingOfIndex_0 : decode cX3_findingOfIndex 0 = .ok (.aload_n 0, 1) := by decide +kernel
theorem dX3_findingOfIndex_1 : decode cX3_findingOfIndex 1 = .ok (.iload_n 1, 1) := by decide +kernel
theorem dX3_findingOfIndex_2 : decode cX3_findingOfIndex 2 = .ok (.invokevirtual 121, 3) := by decide +kernel
theorem dX3_findingOfIndex_5 : decode cX3_findingOfIndex 5 = .ok (.istore_n 3, 1) := by decide +kernel
theorem dX3_findingOfIndex_6 : decode cX3_findingOfIndex 6 = .ok (.iload_n 3, 1) := by decide +kernel
theorem dX3_findingOfIndex_7 : decode cX3_findingOfIndex 7 = .ok (.ifCond .eq 5, 3) := by decide +kernel
theorem dX3_findingOfIndex_10 : decode cX3_findingOfIndex 10 = .ok (.iload_n 3, 1) := by decide +kernel
theorem dX3_findingOfIndex_11 : decode cX3_findingOfIndex 11 = .ok (.ireturn, 1) := by decide +kernel
theorem dX3_findingOfIndex_12 : decode cX3_findingOfIndex 12 = .ok (.iload_n 2, 1) := by decide +kernel
theorem dX3_findingOfIndex_13 : decode cX3_findingOfIndex 13 = .ok (.ifCond .lt 16, 3) := by decide +kernel
theorem dX3_findingOfIndex_16 : decode cX3_findingOfIndex 16 = .ok (.iload_n 2, 1) := by decide +kernel
theorem dX3_findingOfIndex_17 : decode cX3_findingOfIndex 17 = .ok (.aload_n 0, 1) := by decide +kernel
theorem dX3_findingOfIndex_18 : decode cX3_findingOfIndex 18 = .ok (.getfield 15, 3) := by decide +kernel
theorem dX3_findingOfIndex_21 : decode cX3_findingOfIndex 21 = .ok (.iload_n 1, 1) := by decide +kernel
theorem dX3_findingOfIndex_22 : decode cX3_findingOfIndex 22 = .ok (.aaload, 1) := by decide +kernel
theorem dX3_findingOfIndex_23 : decode cX3_findingOfIndex 23 = .ok (.getfield 66, 3) := by decide +kernel
theorem dX3_findingOfIndex_26 : decode cX3_findingOfIndex 26 = .ok (.if_icmp .lt 7, 3) := by decide +kernel
theorem dX3_findingOfIndex_29 : decode cX3_findingOfIndex 29 = .ok (.iconst (-1), 1) := by decide +kernel
theorem dX3_findingOfIndex_30 : decode cX3_findingOfIndex 30 = .ok (.goto 4, 3) := by decide +kernel
theorem dX3_findingOfIndex_33 : decode cX3_findingOfIndex 33 = .ok (.iconst 0, 1) := by decide +kernel
theorem dX3_findingOfIndex_34 : decode cX3_findingOfIndex 34 = .ok (.ireturn, 1) := by decide +kernel
theorem dX3_findingOfPlane_0 : decode cX3_findingOfPlane 0 = .ok (.aload_n 0, 1) := by decide +kernel
theorem dX3_findingOfPlane_1 : decode cX3_findingOfPlane 1 = .ok (.iload_n 1, 1) := by decide +kernel
theorem dX3_findingOfPlane_2 : decode cX3_findingOfPlane 2 = .ok (.invokevirtual 121, 3) := by decide +kernel
theorem dX3_findingOfPlane_5 : decode cX3_findingOfPlane 5 = .ok (.istore_n 3, 1) := by decide +kernel
theorem dX3_findingOfPlane_6 : decode cX3_findingOfPlane 6 = .ok (.iload_n 3, 1) := by decide +kernel
theorem dX3_findingOfPlane_7 : decode cX3_findingOfPlane 7 = .ok (.ifCond .eq 5, 3) := by decide +kernel
theorem dX3_findingOfPlane_10 : decode cX3_findingOfPlane 10 = .ok (.iload_n 3, 1) := by decide +kernel
theorem dX3_findingOfPlane_11 : decode cX3_findingOfPlane 11 = .ok (.ireturn, 1) := by decide +kernel
theorem dX3_findingOfPlane_12 : decode cX3_findingOfPlane 12 = .ok (.aload_n 0, 1) := by decide +kernel
theorem dX3_findingOfPlane_13 : decode cX3_findingOfPlane 13 = .ok (.getfield 18, 3) := by decide +kernel
theorem dX3_findingOfPlane_16 : decode cX3_findingOfPlane 16 = .ok (.iload_n 1, 1) := by decide +kernel
theorem dX3_findingOfPlane_17 : decode cX3_findingOfPlane 17 = .ok (.iaload, 1) := by decide +kernel
theorem dX3_findingOfPlane_18 : decode cX3_findingOfPlane 18 = .ok (.ifCond .ne 6, 3) := by decide +kernel
theorem dX3_findingOfPlane_21 : decode cX3_findingOfPlane 21 = .ok (.bipush (-3), 2) := by decide +kernel
theorem dX3_findingOfPlane_23 : decode cX3_findingOfPlane 23 = .ok (.ireturn, 1) := by decide +kernel
theorem dX3_findingOfPlane_24 : decode cX3_findingOfPlane 24 = .ok (.iload_n 2, 1) := by decide +kernel
theorem dX3_findingOfPlane_25 : decode cX3_findingOfPlane 25 = .ok (.ifCond .lt 12, 3) := by decide +kernel
theorem dX3_findingOfPlane_28 : decode cX3_findingOfPlane 28 = .ok (.iload_n 2, 1) := by decide +kernel
theorem dX3_findingOfPlane_29 : decode cX3_findingOfPlane 29 = .ok (.aload_n 0, 1) := by decide +kernel
theorem dX3_findingOfPlane_30 : decode cX3_findingOfPlane 30 = .ok (.iload_n 1, 1) := by decide +kernel
theorem dX3_findingOfPlane_31 : decode cX3_findingOfPlane 31 = .ok (.invokevirtual 143, 3) := by decide +kernel
theorem dX3_findingOfPlane_34 : decode cX3_findingOfPlane 34 = .ok (.if_icmp .le 7, 3) := by decide +kernel
theorem dX3_findingOfPlane_37 : decode cX3_findingOfPlane 37 = .ok (.iconst (-1), 1) := by decide +kernel
theorem dX3_findingOfPlane_38 : decode cX3_findingOfPlane 38 = .ok (.goto 4, 3) := by decide +kernel
theorem dX3_findingOfPlane_41 : decode cX3_findingOfPlane 41 = .ok (.iconst 0, 1) := by decide +kernel
theorem dX3_findingOfPlane_42 : decode cX3_findingOfPlane 42 = .ok (.ireturn, 1) := by decide +kernel
theorem dX3_findingOfSpan_0 : decode cX3_findingOfSpan 0 = .ok (.aload_n 0, 1) := by decide +kernel
theorem dX3_findingOfSpan_1 : decode cX3_findingOfSpan 1 = .ok (.iload_n 1, 1) := by decide +kernel
theorem dX3_findingOfSpan_2 : decode cX3_findingOfSpan 2 = .ok (.invokevirtual 121, 3) := by decide +kernel
theorem dX3_findingOfSpan_5 : decode cX3_findingOfSpan 5 = .ok (.istore 4, 2) := by decide +kernel
theorem dX3_findingOfSpan_7 : decode cX3_findingOfSpan 7 = .ok (.iload 4, 2) := by decide +kernel
theorem dX3_findingOfSpan_9 : decode cX3_findingOfSpan 9 = .ok (.ifCond .eq 6, 3) := by decide +kernel
theorem dX3_findingOfSpan_12 : decode cX3_findingOfSpan 12 = .ok (.iload 4, 2) := by decide +kernel
theorem dX3_findingOfSpan_14 : decode cX3_findingOfSpan 14 = .ok (.ireturn, 1) := by decide +kernel
theorem dX3_findingOfSpan_15 : decode cX3_findingOfSpan 15 = .ok (.iload_n 3, 1) := by decide +kernel
theorem dX3_findingOfSpan_16 : decode cX3_findingOfSpan 16 = .ok (.iload_n 2, 1) := by decide +kernel
theorem dX3_findingOfSpan_17 : decode cX3_findingOfSpan 17 = .ok (.if_icmp .ge 6, 3) := by decide +kernel
theorem dX3_findingOfSpan_20 : decode cX3_findingOfSpan 20 = .ok (.bipush (-4), 2) := by decide +kernel
theorem dX3_findingOfSpan_22 : decode cX3_findingOfSpan 22 = .ok (.ireturn, 1) := by decide +kernel
theorem dX3_findingOfSpan_23 : decode cX3_findingOfSpan 23 = .ok (.iload_n 2, 1) := by decide +kernel
theorem dX3_findingOfSpan_24 : decode cX3_findingOfSpan 24 = .ok (.ifCond .lt 16, 3) := by decide +kernel
theorem dX3_findingOfSpan_27 : decode cX3_findingOfSpan 27 = .ok (.iload_n 3, 1) := by decide +kernel
theorem dX3_findingOfSpan_28 : decode cX3_findingOfSpan 28 = .ok (.aload_n 0, 1) := by decide +kernel
theorem dX3_findingOfSpan_29 : decode cX3_findingOfSpan 29 = .ok (.getfield 15, 3) := by decide +kernel
theorem dX3_findingOfSpan_32 : decode cX3_findingOfSpan 32 = .ok (.iload_n 1, 1) := by decide +kernel
theorem dX3_findingOfSpan_33 : decode cX3_findingOfSpan 33 = .ok (.aaload, 1) := by decide +kernel
theorem dX3_findingOfSpan_34 : decode cX3_findingOfSpan 34 = .ok (.getfield 66, 3) := by decide +kernel
theorem dX3_findingOfSpan_37 : decode cX3_findingOfSpan 37 = .ok (.if_icmp .le 7, 3) := by decide +kernel
theorem dX3_findingOfSpan_40 : decode cX3_findingOfSpan 40 = .ok (.iconst (-1), 1) := by decide +kernel
theorem dX3_findingOfSpan_41 : decode cX3_findingOfSpan 41 = .ok (.goto 4, 3) := by decide +kernel
theorem dX3_findingOfSpan_44 : decode cX3_findingOfSpan 44 = .ok (.iconst 0, 1) := by decide +kernel
theorem dX3_findingOfSpan_45 : decode cX3_findingOfSpan 45 = .ok (.ireturn, 1) := by decide +kernel
theorem dX3_hasRoomFor_0 : decode cX3_hasRoomFor 0 = .ok (.aload_n 0, 1) := by decide +kernel
theorem dX3_hasRoomFor_1 : decode cX3_hasRoomFor 1 = .ok (.getfield 48, 3) := by decide +kernel
theorem dX3_hasRoomFor_4 : decode cX3_hasRoomFor 4 = .ok (.sipush 500, 3) := by decide +kernel
theorem dX3_hasRoomFor_7 : decode cX3_hasRoomFor 7 = .ok (.if_icmp .ge 19, 3) := by decide +kernel
theorem dX3_hasRoomFor_10 : decode cX3_hasRoomFor 10 = .ok (.iload_n 1, 1) := by decide +kernel
theorem dX3_hasRoomFor_11 : decode cX3_hasRoomFor 11 = .ok (.sipush 20000, 3) := by decide +kernel
theorem dX3_hasRoomFor_14 : decode cX3_hasRoomFor 14 = .ok (.aload_n 0, 1) := by decide +kernel
theorem dX3_hasRoomFor_15 : decode cX3_hasRoomFor 15 = .ok (.getfield 118, 3) := by decide +kernel
theorem dX3_hasRoomFor_18 : decode cX3_hasRoomFor 18 = .ok (.isub, 1) := by decide +kernel
theorem dX3_hasRoomFor_19 : decode cX3_hasRoomFor 19 = .ok (.if_icmp .gt 7, 3) := by decide +kernel
theorem dX3_hasRoomFor_22 : decode cX3_hasRoomFor 22 = .ok (.iconst 1, 1) := by decide +kernel
theorem dX3_hasRoomFor_23 : decode cX3_hasRoomFor 23 = .ok (.goto 4, 3) := by decide +kernel
theorem dX3_hasRoomFor_26 : decode cX3_hasRoomFor 26 = .ok (.iconst 0, 1) := by decide +kernel
theorem dX3_hasRoomFor_27 : decode cX3_hasRoomFor 27 = .ok (.ireturn, 1) := by decide +kernel
theorem dX3_grow_0 : decode cX3_grow 0 = .ok (.new 9, 3) := by decide +kernel
theorem dX3_grow_3 : decode cX3_grow 3 = .ok (.dup, 1) := by decide +kernel
theorem dX3_grow_4 : decode cX3_grow 4 = .ok (.aload_n 0, 1) := by decide +kernel
theorem dX3_grow_5 : decode cX3_grow 5 = .ok (.getfield 48, 3) := by decide +kernel
theorem dX3_grow_8 : decode cX3_grow 8 = .ok (.aload_n 1, 1) := by decide +kernel
theorem dX3_grow_9 : decode cX3_grow 9 = .ok (.iload_n 2, 1) := by decide +kernel
theorem dX3_grow_10 : decode cX3_grow 10 = .ok (.iload_n 3, 1) := by decide +kernel
theorem dX3_grow_11 : decode cX3_grow 11 = .ok (.invokespecial 45, 3) := by decide +kernel
theorem dX3_grow_14 : decode cX3_grow 14 = .ok (.astore 4, 2) := by decide +kernel
theorem dX3_grow_16 : decode cX3_grow 16 = .ok (.aload_n 1, 1) := by decide +kernel
theorem dX3_grow_17 : decode cX3_grow 17 = .ok (.dup, 1) := by decide +kernel
theorem dX3_grow_18 : decode cX3_grow 18 = .ok (.getfield 108, 3) := by decide +kernel
theorem dX3_grow_21 : decode cX3_grow 21 = .ok (.iconst 1, 1) := by decide +kernel
theorem dX3_grow_22 : decode cX3_grow 22 = .ok (.iadd, 1) := by decide +kernel
theorem dX3_grow_23 : decode cX3_grow 23 = .ok (.putfield 108, 3) := by decide +kernel
theorem dX3_grow_26 : decode cX3_grow 26 = .ok (.aload_n 0, 1) := by decide +kernel
theorem dX3_grow_27 : decode cX3_grow 27 = .ok (.getfield 11, 3) := by decide +kernel
theorem dX3_grow_30 : decode cX3_grow 30 = .ok (.aload_n 0, 1) := by decide +kernel
theorem dX3_grow_31 : decode cX3_grow 31 = .ok (.getfield 48, 3) := by decide +kernel
theorem dX3_grow_34 : decode cX3_grow 34 = .ok (.aload 4, 2) := by decide +kernel
theorem dX3_grow_36 : decode cX3_grow 36 = .ok (.aastore, 1) := by decide +kernel
theorem dX3_grow_37 : decode cX3_grow 37 = .ok (.aload_n 0, 1) := by decide +kernel
theorem dX3_grow_38 : decode cX3_grow 38 = .ok (.dup, 1) := by decide +kernel
theorem dX3_grow_39 : decode cX3_grow 39 = .ok (.getfield 48, 3) := by decide +kernel
theorem dX3_grow_42 : decode cX3_grow 42 = .ok (.iconst 1, 1) := by decide +kernel
theorem dX3_grow_43 : decode cX3_grow 43 = .ok (.iadd, 1) := by decide +kernel
theorem dX3_grow_44 : decode cX3_grow 44 = .ok (.putfield 48, 3) := by decide +kernel
theorem dX3_grow_47 : decode cX3_grow 47 = .ok (.aload_n 0, 1) := by decide +kernel
theorem dX3_grow_48 : decode cX3_grow 48 = .ok (.dup, 1) := by decide +kernel
theorem dX3_grow_49 : decode cX3_grow 49 = .ok (.getfield 118, 3) := by decide +kernel
theorem dX3_grow_52 : decode cX3_grow 52 = .ok (.iload_n 3, 1) := by decide +kernel
theorem dX3_grow_53 : decode cX3_grow 53 = .ok (.iadd, 1) := by decide +kernel
theorem dX3_grow_54 : decode cX3_grow 54 = .ok (.putfield 118, 3) := by decide +kernel
theorem dX3_grow_57 : decode cX3_grow 57 = .ok (.aload 4, 2) := by decide +kernel
theorem dX3_grow_59 : decode cX3_grow 59 = .ok (.areturn, 1) := by decide +kernel
theorem dX3_showGrown_0 : decode cX3_showGrown 0 = .ok (.aload_n 0, 1) := by decide +kernel
theorem dX3_showGrown_1 : decode cX3_showGrown 1 = .ok (.getfield 15, 3) := by decide +kernel
theorem dX3_showGrown_4 : decode cX3_showGrown 4 = .ok (.iload_n 2, 1) := by decide +kernel
theorem dX3_showGrown_5 : decode cX3_showGrown 5 = .ok (.aload_n 1, 1) := by decide +kernel
theorem dX3_showGrown_6 : decode cX3_showGrown 6 = .ok (.aastore, 1) := by decide +kernel
theorem dX3_showGrown_7 : decode cX3_showGrown 7 = .ok (.aload_n 0, 1) := by decide +kernel
theorem dX3_showGrown_8 : decode cX3_showGrown 8 = .ok (.getfield 18, 3) := by decide +kernel
theorem dX3_showGrown_11 : decode cX3_showGrown 11 = .ok (.iload_n 2, 1) := by decide +kernel
theorem dX3_showGrown_12 : decode cX3_showGrown 12 = .ok (.iconst 0, 1) := by decide +kernel
theorem dX3_showGrown_13 : decode cX3_showGrown 13 = .ok (.iastore, 1) := by decide +kernel
theorem dX3_showGrown_14 : decode cX3_showGrown 14 = .ok (.aload_n 1, 1) := by decide +kernel
theorem dX3_showGrown_15 : decode cX3_showGrown 15 = .ok (.getfield 105, 3) := by decide +kernel
theorem dX3_showGrown_18 : decode cX3_showGrown 18 = .ok (.ireturn, 1) := by decide +kernel
theorem dX3_topBitOf_0 : decode cX3_topBitOf 0 = .ok (.aload_n 0, 1) := by decide +kernel
theorem dX3_topBitOf_1 : decode cX3_topBitOf 1 = .ok (.getfield 18, 3) := by decide +kernel
theorem dX3_topBitOf_4 : decode cX3_topBitOf 4 = .ok (.iload_n 1, 1) := by decide +kernel
theorem dX3_topBitOf_5 : decode cX3_topBitOf 5 = .ok (.iaload, 1) := by decide +kernel
theorem dX3_topBitOf_6 : decode cX3_topBitOf 6 = .ok (.iconst 2, 1) := by decide +kernel
theorem dX3_topBitOf_7 : decode cX3_topBitOf 7 = .ok (.if_icmp .ne 8, 3) := by decide +kernel
theorem dX3_topBitOf_10 : decode cX3_topBitOf 10 = .ok (.bipush 7, 2) := by decide +kernel
theorem dX3_topBitOf_12 : decode cX3_topBitOf 12 = .ok (.goto 5, 3) := by decide +kernel
theorem dX3_topBitOf_15 : decode cX3_topBitOf 15 = .ok (.bipush 9, 2) := by decide +kernel
theorem dX3_topBitOf_17 : decode cX3_topBitOf 17 = .ok (.ireturn, 1) := by decide +kernel
theorem dX3_layOutSpan_0 : decode cX3_layOutSpan 0 = .ok (.aload_n 0, 1) := by decide +kernel
theorem dX3_layOutSpan_1 : decode cX3_layOutSpan 1 = .ok (.iload_n 1, 1) := by decide +kernel
theorem dX3_layOutSpan_2 : decode cX3_layOutSpan 2 = .ok (.iload_n 2, 1) := by decide +kernel
theorem dX3_layOutSpan_3 : decode cX3_layOutSpan 3 = .ok (.iload_n 3, 1) := by decide +kernel
theorem dX3_layOutSpan_4 : decode cX3_layOutSpan 4 = .ok (.invokevirtual 84, 3) := by decide +kernel
theorem dX3_layOutSpan_7 : decode cX3_layOutSpan 7 = .ok (.istore 4, 2) := by decide +kernel
theorem dX3_layOutSpan_9 : decode cX3_layOutSpan 9 = .ok (.iload 4, 2) := by decide +kernel
theorem dX3_layOutSpan_11 : decode cX3_layOutSpan 11 = .ok (.ifCond .ne 16, 3) := by decide +kernel
theorem dX3_layOutSpan_14 : decode cX3_layOutSpan 14 = .ok (.aload_n 0, 1) := by decide +kernel
theorem dX3_layOutSpan_15 : decode cX3_layOutSpan 15 = .ok (.getfield 25, 3) := by decide +kernel
theorem dX3_layOutSpan_18 : decode cX3_layOutSpan 18 = .ok (.aload_n 0, 1) := by decide +kernel
theorem dX3_layOutSpan_19 : decode cX3_layOutSpan 19 = .ok (.getfield 15, 3) := by decide +kernel
theorem dX3_layOutSpan_22 : decode cX3_layOutSpan 22 = .ok (.iload_n 1, 1) := by decide +kernel
theorem dX3_layOutSpan_23 : decode cX3_layOutSpan 23 = .ok (.aaload, 1) := by decide +kernel
theorem dX3_layOutSpan_24 : decode cX3_layOutSpan 24 = .ok (.invokevirtual 88, 3) := by decide +kernel
theorem dX3_layOutSpan_27 : decode cX3_layOutSpan 27 = .ok (.iload 4, 2) := by decide +kernel
theorem dX3_layOutSpan_29 : decode cX3_layOutSpan 29 = .ok (.ireturn, 1) := by decide +kernel
theorem dX3_countSpan_0 : decode cX3_countSpan 0 = .ok (.aload_n 0, 1) := by decide +kernel
theorem dX3_countSpan_1 : decode cX3_countSpan 1 = .ok (.iload_n 1, 1) := by decide +kernel
theorem dX3_countSpan_2 : decode cX3_countSpan 2 = .ok (.iload_n 2, 1) := by decide +kernel
theorem dX3_countSpan_3 : decode cX3_countSpan 3 = .ok (.iload_n 3, 1) := by decide +kernel
theorem dX3_countSpan_4 : decode cX3_countSpan 4 = .ok (.invokevirtual 140, 3) := by decide +kernel
theorem dX3_countSpan_7 : decode cX3_countSpan 7 = .ok (.istore 4, 2) := by decide +kernel
theorem dX3_countSpan_9 : decode cX3_countSpan 9 = .ok (.iload 4, 2) := by decide +kernel
theorem dX3_countSpan_11 : decode cX3_countSpan 11 = .ok (.ifCond .ne 24, 3) := by decide +kernel
theorem dX3_countSpan_14 : decode cX3_countSpan 14 = .ok (.aload_n 0, 1) := by decide +kernel
theorem dX3_countSpan_15 : decode cX3_countSpan 15 = .ok (.getfield 35, 3) := by decide +kernel
theorem dX3_countSpan_18 : decode cX3_countSpan 18 = .ok (.invokevirtual 179, 3) := by decide +kernel
theorem dX3_countSpan_21 : decode cX3_countSpan 21 = .ok (.aload_n 0, 1) := by decide +kernel
theorem dX3_countSpan_22 : decode cX3_countSpan 22 = .ok (.getfield 35, 3) := by decide +kernel
theorem dX3_countSpan_25 : decode cX3_countSpan 25 = .ok (.aload_n 0, 1) := by decide +kernel
theorem dX3_countSpan_26 : decode cX3_countSpan 26 = .ok (.getfield 25, 3) := by decide +kernel
theorem dX3_countSpan_29 : decode cX3_countSpan 29 = .ok (.iload_n 2, 1) := by decide +kernel
theorem dX3_countSpan_30 : decode cX3_countSpan 30 = .ok (.iload_n 3, 1) := by decide +kernel
theorem dX3_countSpan_31 : decode cX3_countSpan 31 = .ok (.iconst 1, 1) := by decide +kernel
theorem dX3_countSpan_32 : decode cX3_countSpan 32 = .ok (.invokevirtual 182, 3) := by decide +kernel
theorem dX3_countSpan_35 : decode cX3_countSpan 35 = .ok (.iload 4, 2) := by decide +kernel
theorem dX3_countSpan_37 : decode cX3_countSpan 37 = .ok (.ireturn, 1) := by decide +kernel
theorem dX3_layOutPlane_0 : decode cX3_layOutPlane 0 = .ok (.aload_n 0, 1) := by decide +kernel
theorem dX3_layOutPlane_1 : decode cX3_layOutPlane 1 = .ok (.iload_n 1, 1) := by decide +kernel
theorem dX3_layOutPlane_2 : decode cX3_layOutPlane 2 = .ok (.invokevirtual 143, 3) := by decide +kernel
theorem dX3_layOutPlane_5 : decode cX3_layOutPlane 5 = .ok (.istore_n 3, 1) := by decide +kernel
theorem dX3_layOutPlane_6 : decode cX3_layOutPlane 6 = .ok (.aload_n 0, 1) := by decide +kernel
theorem dX3_layOutPlane_7 : decode cX3_layOutPlane 7 = .ok (.getfield 25, 3) := by decide +kernel
theorem dX3_layOutPlane_10 : decode cX3_layOutPlane 10 = .ok (.aload_n 0, 1) := by decide +kernel
theorem dX3_layOutPlane_11 : decode cX3_layOutPlane 11 = .ok (.getfield 15, 3) := by decide +kernel
theorem dX3_layOutPlane_14 : decode cX3_layOutPlane 14 = .ok (.iload_n 1, 1) := by decide +kernel
theorem dX3_layOutPlane_15 : decode cX3_layOutPlane 15 = .ok (.aaload, 1) := by decide +kernel
theorem dX3_layOutPlane_16 : decode cX3_layOutPlane 16 = .ok (.invokevirtual 88, 3) := by decide +kernel
theorem dX3_layOutPlane_19 : decode cX3_layOutPlane 19 = .ok (.iconst 0, 1) := by decide +kernel
theorem dX3_layOutPlane_20 : decode cX3_layOutPlane 20 = .ok (.istore 4, 2) := by decide +kernel
theorem dX3_layOutPlane_22 : decode cX3_layOutPlane 22 = .ok (.iload 4, 2) := by decide +kernel
theorem dX3_layOutPlane_24 : decode cX3_layOutPlane 24 = .ok (.iload_n 2, 1) := by decide +kernel
theorem dX3_layOutPlane_25 : decode cX3_layOutPlane 25 = .ok (.if_icmp .ge 20, 3) := by decide +kernel
theorem dX3_layOutPlane_28 : decode cX3_layOutPlane 28 = .ok (.aload_n 0, 1) := by decide +kernel
theorem dX3_layOutPlane_29 : decode cX3_layOutPlane 29 = .ok (.getfield 25, 3) := by decide +kernel
theorem dX3_layOutPlane_32 : decode cX3_layOutPlane 32 = .ok (.iload_n 3, 1) := by decide +kernel
theorem dX3_layOutPlane_33 : decode cX3_layOutPlane 33 = .ok (.iload 4, 2) := by decide +kernel
theorem dX3_layOutPlane_35 : decode cX3_layOutPlane 35 = .ok (.isub, 1) := by decide +kernel
theorem dX3_layOutPlane_36 : decode cX3_layOutPlane 36 = .ok (.invokevirtual 196, 3) := by decide +kernel
theorem dX3_layOutPlane_39 : decode cX3_layOutPlane 39 = .ok (.iinc 4 1, 3) := by decide +kernel
theorem dX3_layOutPlane_42 : decode cX3_layOutPlane 42 = .ok (.goto (-20), 3) := by decide +kernel
theorem dX3_layOutPlane_45 : decode cX3_layOutPlane 45 = .ok (.iload_n 3, 1) := by decide +kernel
theorem dX3_layOutPlane_46 : decode cX3_layOutPlane 46 = .ok (.iload_n 2, 1) := by decide +kernel
theorem dX3_layOutPlane_47 : decode cX3_layOutPlane 47 = .ok (.isub, 1) := by decide +kernel
theorem dX3_layOutPlane_48 : decode cX3_layOutPlane 48 = .ok (.ireturn, 1) := by decide +kernel
theorem dX3_goDown_0 : decode cX3_goDown 0 = .ok (.iconst 0, 1) := by decide +kernel
theorem dX3_goDown_1 : decode cX3_goDown 1 = .ok (.istore 5, 2) := by decide +kernel
theorem dX3_goDown_3 : decode cX3_goDown 3 = .ok (.iload_n 3, 1) := by decide +kernel
theorem dX3_goDown_4 : decode cX3_goDown 4 = .ok (.istore 6, 2) := by decide +kernel
theorem dX3_goDown_6 : decode cX3_goDown 6 = .ok (.iconst 0, 1) := by decide +kernel
theorem dX3_goDown_7 : decode cX3_goDown 7 = .ok (.istore 7, 2) := by decide +kernel
theorem dX3_goDown_9 : decode cX3_goDown 9 = .ok (.iload 7, 2) := by decide +kernel
theorem dX3_goDown_11 : decode cX3_goDown 11 = .ok (.iload 4, 2) := by decide +kernel
theorem dX3_goDown_13 : decode cX3_goDown 13 = .ok (.if_icmp .gt 68, 3) := by decide +kernel
theorem dX3_goDown_16 : decode cX3_goDown 16 = .ok (.iconst 1, 1) := by decide +kernel
theorem dX3_goDown_17 : decode cX3_goDown 17 = .ok (.iload 4, 2) := by decide +kernel
theorem dX3_goDown_19 : decode cX3_goDown 19 = .ok (.iload 7, 2) := by decide +kernel
theorem dX3_goDown_21 : decode cX3_goDown 21 = .ok (.isub, 1) := by decide +kernel
theorem dX3_goDown_22 : decode cX3_goDown 22 = .ok (.ishl, 1) := by decide +kernel
theorem dX3_goDown_23 : decode cX3_goDown 23 = .ok (.istore 8, 2) := by decide +kernel
theorem dX3_goDown_25 : decode cX3_goDown 25 = .ok (.aload_n 0, 1) := by decide +kernel
theorem dX3_goDown_26 : decode cX3_goDown 26 = .ok (.getfield 25, 3) := by decide +kernel
theorem dX3_goDown_29 : decode cX3_goDown 29 = .ok (.iload_n 1, 1) := by decide +kernel
theorem dX3_goDown_30 : decode cX3_goDown 30 = .ok (.iload_n 2, 1) := by decide +kernel
theorem dX3_goDown_31 : decode cX3_goDown 31 = .ok (.iload 5, 2) := by decide +kernel
theorem dX3_goDown_33 : decode cX3_goDown 33 = .ok (.iload 5, 2) := by decide +kernel
theorem dX3_goDown_35 : decode cX3_goDown 35 = .ok (.iload 8, 2) := by decide +kernel
theorem dX3_goDown_37 : decode cX3_goDown 37 = .ok (.iadd, 1) := by decide +kernel
theorem dX3_goDown_38 : decode cX3_goDown 38 = .ok (.iconst 1, 1) := by decide +kernel
theorem dX3_goDown_39 : decode cX3_goDown 39 = .ok (.isub, 1) := by decide +kernel
theorem dX3_goDown_40 : decode cX3_goDown 40 = .ok (.invokevirtual 153, 3) := by decide +kernel
theorem dX3_goDown_43 : decode cX3_goDown 43 = .ok (.istore 9, 2) := by decide +kernel
theorem dX3_goDown_45 : decode cX3_goDown 45 = .ok (.aload_n 0, 1) := by decide +kernel
theorem dX3_goDown_46 : decode cX3_goDown 46 = .ok (.getfield 39, 3) := by decide +kernel
theorem dX3_goDown_49 : decode cX3_goDown 49 = .ok (.iload 7, 2) := by decide +kernel
theorem dX3_goDown_51 : decode cX3_goDown 51 = .ok (.iload 9, 2) := by decide +kernel
theorem dX3_goDown_53 : decode cX3_goDown 53 = .ok (.iastore, 1) := by decide +kernel
theorem dX3_goDown_54 : decode cX3_goDown 54 = .ok (.iload 6, 2) := by decide +kernel
theorem dX3_goDown_56 : decode cX3_goDown 56 = .ok (.iload 9, 2) := by decide +kernel
theorem dX3_goDown_58 : decode cX3_goDown 58 = .ok (.if_icmp .lt 17, 3) := by decide +kernel
theorem dX3_goDown_61 : decode cX3_goDown 61 = .ok (.iload 6, 2) := by decide +kernel
theorem dX3_goDown_63 : decode cX3_goDown 63 = .ok (.iload 9, 2) := by decide +kernel
theorem dX3_goDown_65 : decode cX3_goDown 65 = .ok (.isub, 1) := by decide +kernel
theorem dX3_goDown_66 : decode cX3_goDown 66 = .ok (.istore 6, 2) := by decide +kernel
theorem dX3_goDown_68 : decode cX3_goDown 68 = .ok (.iload 5, 2) := by decide +kernel
theorem dX3_goDown_70 : decode cX3_goDown 70 = .ok (.iload 8, 2) := by decide +kernel
theorem dX3_goDown_72 : decode cX3_goDown 72 = .ok (.iadd, 1) := by decide +kernel
theorem dX3_goDown_73 : decode cX3_goDown 73 = .ok (.istore 5, 2) := by decide +kernel
theorem dX3_goDown_75 : decode cX3_goDown 75 = .ok (.iinc 7 1, 3) := by decide +kernel
theorem dX3_goDown_78 : decode cX3_goDown 78 = .ok (.goto (-69), 3) := by decide +kernel
theorem dX3_goDown_81 : decode cX3_goDown 81 = .ok (.aload_n 0, 1) := by decide +kernel
theorem dX3_goDown_82 : decode cX3_goDown 82 = .ok (.iload 4, 2) := by decide +kernel
theorem dX3_goDown_84 : decode cX3_goDown 84 = .ok (.iconst 1, 1) := by decide +kernel
theorem dX3_goDown_85 : decode cX3_goDown 85 = .ok (.iadd, 1) := by decide +kernel
theorem dX3_goDown_86 : decode cX3_goDown 86 = .ok (.putfield 193, 3) := by decide +kernel
theorem dX3_goDown_89 : decode cX3_goDown 89 = .ok (.iload 5, 2) := by decide +kernel
theorem dX3_goDown_91 : decode cX3_goDown 91 = .ok (.ireturn, 1) := by decide +kernel
