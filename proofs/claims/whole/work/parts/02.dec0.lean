theorem dX0_init_0 : decode cX0_init 0 = .ok (.aload_n 0, 1) := by decide +kernel
theorem dX0_init_1 : decode cX0_init 1 = .ok (.invokespecial 3, 3) := by decide +kernel
theorem dX0_init_4 : decode cX0_init 4 = .ok (.aload_n 0, 1) := by decide +kernel
theorem dX0_init_5 : decode cX0_init 5 = .ok (.sipush 400, 3) := by decide +kernel
theorem dX0_init_8 : decode cX0_init 8 = .ok (.newarray .int, 2) := by decide +kernel
theorem dX0_init_10 : decode cX0_init 10 = .ok (.putfield 9, 3) := by decide +kernel
theorem dX0_init_13 : decode cX0_init 13 = .ok (.aload_n 0, 1) := by decide +kernel
theorem dX0_init_14 : decode cX0_init 14 = .ok (.sipush 400, 3) := by decide +kernel
theorem dX0_init_17 : decode cX0_init 17 = .ok (.newarray .int, 2) := by decide +kernel
theorem dX0_init_19 : decode cX0_init 19 = .ok (.putfield 15, 3) := by decide +kernel
theorem dX0_init_22 : decode cX0_init 22 = .ok (.aload_n 0, 1) := by decide +kernel
theorem dX0_init_23 : decode cX0_init 23 = .ok (.sipush 400, 3) := by decide +kernel
theorem dX0_init_26 : decode cX0_init 26 = .ok (.newarray .int, 2) := by decide +kernel
theorem dX0_init_28 : decode cX0_init 28 = .ok (.putfield 18, 3) := by decide +kernel
theorem dX0_init_31 : decode cX0_init 31 = .ok (.return_, 1) := by decide +kernel
theorem dX0_layOut_0 : decode cX0_layOut 0 = .ok (.aload_n 1, 1) := by decide +kernel
theorem dX0_layOut_1 : decode cX0_layOut 1 = .ok (.getfield 21, 3) := by decide +kernel
theorem dX0_layOut_4 : decode cX0_layOut 4 = .ok (.istore_n 2, 1) := by decide +kernel
theorem dX0_layOut_5 : decode cX0_layOut 5 = .ok (.aload_n 0, 1) := by decide +kernel
theorem dX0_layOut_6 : decode cX0_layOut 6 = .ok (.iload_n 2, 1) := by decide +kernel
theorem dX0_layOut_7 : decode cX0_layOut 7 = .ok (.putfield 27, 3) := by decide +kernel
theorem dX0_layOut_10 : decode cX0_layOut 10 = .ok (.aload_n 1, 1) := by decide +kernel
theorem dX0_layOut_11 : decode cX0_layOut 11 = .ok (.astore_n 3, 1) := by decide +kernel
theorem dX0_layOut_12 : decode cX0_layOut 12 = .ok (.aload_n 3, 1) := by decide +kernel
theorem dX0_layOut_13 : decode cX0_layOut 13 = .ok (.ifnull 80, 3) := by decide +kernel
theorem dX0_layOut_16 : decode cX0_layOut 16 = .ok (.iload_n 2, 1) := by decide +kernel
theorem dX0_layOut_17 : decode cX0_layOut 17 = .ok (.ifCond .le 76, 3) := by decide +kernel
theorem dX0_layOut_20 : decode cX0_layOut 20 = .ok (.aload_n 3, 1) := by decide +kernel
theorem dX0_layOut_21 : decode cX0_layOut 21 = .ok (.getfield 28, 3) := by decide +kernel
theorem dX0_layOut_24 : decode cX0_layOut 24 = .ok (.istore 4, 2) := by decide +kernel
theorem dX0_layOut_26 : decode cX0_layOut 26 = .ok (.iload 4, 2) := by decide +kernel
theorem dX0_layOut_28 : decode cX0_layOut 28 = .ok (.iload_n 2, 1) := by decide +kernel
theorem dX0_layOut_29 : decode cX0_layOut 29 = .ok (.if_icmp .ge 47, 3) := by decide +kernel
theorem dX0_layOut_32 : decode cX0_layOut 32 = .ok (.aload_n 0, 1) := by decide +kernel
theorem dX0_layOut_33 : decode cX0_layOut 33 = .ok (.getfield 9, 3) := by decide +kernel
theorem dX0_layOut_36 : decode cX0_layOut 36 = .ok (.iload 4, 2) := by decide +kernel
theorem dX0_layOut_38 : decode cX0_layOut 38 = .ok (.aload_n 3, 1) := by decide +kernel
theorem dX0_layOut_39 : decode cX0_layOut 39 = .ok (.getfield 31, 3) := by decide +kernel
theorem dX0_layOut_42 : decode cX0_layOut 42 = .ok (.iload 4, 2) := by decide +kernel
theorem dX0_layOut_44 : decode cX0_layOut 44 = .ok (.aload_n 3, 1) := by decide +kernel
theorem dX0_layOut_45 : decode cX0_layOut 45 = .ok (.getfield 28, 3) := by decide +kernel
theorem dX0_layOut_48 : decode cX0_layOut 48 = .ok (.isub, 1) := by decide +kernel
theorem dX0_layOut_49 : decode cX0_layOut 49 = .ok (.iaload, 1) := by decide +kernel
theorem dX0_layOut_50 : decode cX0_layOut 50 = .ok (.iastore, 1) := by decide +kernel
theorem dX0_layOut_51 : decode cX0_layOut 51 = .ok (.aload_n 0, 1) := by decide +kernel
theorem dX0_layOut_52 : decode cX0_layOut 52 = .ok (.getfield 15, 3) := by decide +kernel
theorem dX0_layOut_55 : decode cX0_layOut 55 = .ok (.iload 4, 2) := by decide +kernel
theorem dX0_layOut_57 : decode cX0_layOut 57 = .ok (.aload_n 3, 1) := by decide +kernel
theorem dX0_layOut_58 : decode cX0_layOut 58 = .ok (.getfield 34, 3) := by decide +kernel
theorem dX0_layOut_61 : decode cX0_layOut 61 = .ok (.iload 4, 2) := by decide +kernel
theorem dX0_layOut_63 : decode cX0_layOut 63 = .ok (.aload_n 3, 1) := by decide +kernel
theorem dX0_layOut_64 : decode cX0_layOut 64 = .ok (.getfield 28, 3) := by decide +kernel
theorem dX0_layOut_67 : decode cX0_layOut 67 = .ok (.isub, 1) := by decide +kernel
theorem dX0_layOut_68 : decode cX0_layOut 68 = .ok (.iaload, 1) := by decide +kernel
theorem dX0_layOut_69 : decode cX0_layOut 69 = .ok (.iastore, 1) := by decide +kernel
theorem dX0_layOut_70 : decode cX0_layOut 70 = .ok (.iinc 4 1, 3) := by decide +kernel
theorem dX0_layOut_73 : decode cX0_layOut 73 = .ok (.goto (-47), 3) := by decide +kernel
theorem dX0_layOut_76 : decode cX0_layOut 76 = .ok (.iload_n 2, 1) := by decide +kernel
theorem dX0_layOut_77 : decode cX0_layOut 77 = .ok (.aload_n 3, 1) := by decide +kernel
theorem dX0_layOut_78 : decode cX0_layOut 78 = .ok (.getfield 28, 3) := by decide +kernel
theorem dX0_layOut_81 : decode cX0_layOut 81 = .ok (.invokestatic 37, 3) := by decide +kernel
theorem dX0_layOut_84 : decode cX0_layOut 84 = .ok (.istore_n 2, 1) := by decide +kernel
theorem dX0_layOut_85 : decode cX0_layOut 85 = .ok (.aload_n 3, 1) := by decide +kernel
theorem dX0_layOut_86 : decode cX0_layOut 86 = .ok (.getfield 43, 3) := by decide +kernel
theorem dX0_layOut_89 : decode cX0_layOut 89 = .ok (.astore_n 3, 1) := by decide +kernel
theorem dX0_layOut_90 : decode cX0_layOut 90 = .ok (.goto (-78), 3) := by decide +kernel
theorem dX0_layOut_93 : decode cX0_layOut 93 = .ok (.return_, 1) := by decide +kernel
theorem dX0_countBelow_0 : decode cX0_countBelow 0 = .ok (.iconst 0, 1) := by decide +kernel
theorem dX0_countBelow_1 : decode cX0_countBelow 1 = .ok (.istore 4, 2) := by decide +kernel
theorem dX0_countBelow_3 : decode cX0_countBelow 3 = .ok (.iload_n 1, 1) := by decide +kernel
theorem dX0_countBelow_4 : decode cX0_countBelow 4 = .ok (.istore 5, 2) := by decide +kernel
theorem dX0_countBelow_6 : decode cX0_countBelow 6 = .ok (.iload 5, 2) := by decide +kernel
theorem dX0_countBelow_8 : decode cX0_countBelow 8 = .ok (.iload_n 2, 1) := by decide +kernel
theorem dX0_countBelow_9 : decode cX0_countBelow 9 = .ok (.if_icmp .ge 23, 3) := by decide +kernel
theorem dX0_countBelow_12 : decode cX0_countBelow 12 = .ok (.aload_n 0, 1) := by decide +kernel
theorem dX0_countBelow_13 : decode cX0_countBelow 13 = .ok (.getfield 9, 3) := by decide +kernel
theorem dX0_countBelow_16 : decode cX0_countBelow 16 = .ok (.iload 5, 2) := by decide +kernel
theorem dX0_countBelow_18 : decode cX0_countBelow 18 = .ok (.iaload, 1) := by decide +kernel
theorem dX0_countBelow_19 : decode cX0_countBelow 19 = .ok (.iload_n 3, 1) := by decide +kernel
theorem dX0_countBelow_20 : decode cX0_countBelow 20 = .ok (.if_icmp .ge 6, 3) := by decide +kernel
theorem dX0_countBelow_23 : decode cX0_countBelow 23 = .ok (.iinc 4 1, 3) := by decide +kernel
theorem dX0_countBelow_26 : decode cX0_countBelow 26 = .ok (.iinc 5 1, 3) := by decide +kernel
theorem dX0_countBelow_29 : decode cX0_countBelow 29 = .ok (.goto (-23), 3) := by decide +kernel
theorem dX0_countBelow_32 : decode cX0_countBelow 32 = .ok (.iload 4, 2) := by decide +kernel
theorem dX0_countBelow_34 : decode cX0_countBelow 34 = .ok (.ireturn, 1) := by decide +kernel
theorem dX0_countWithin_0 : decode cX0_countWithin 0 = .ok (.iconst 0, 1) := by decide +kernel
theorem dX0_countWithin_1 : decode cX0_countWithin 1 = .ok (.istore 5, 2) := by decide +kernel
theorem dX0_countWithin_3 : decode cX0_countWithin 3 = .ok (.iload_n 1, 1) := by decide +kernel
theorem dX0_countWithin_4 : decode cX0_countWithin 4 = .ok (.istore 6, 2) := by decide +kernel
theorem dX0_countWithin_6 : decode cX0_countWithin 6 = .ok (.iload 6, 2) := by decide +kernel
theorem dX0_countWithin_8 : decode cX0_countWithin 8 = .ok (.iload_n 2, 1) := by decide +kernel
theorem dX0_countWithin_9 : decode cX0_countWithin 9 = .ok (.if_icmp .ge 35, 3) := by decide +kernel
theorem dX0_countWithin_12 : decode cX0_countWithin 12 = .ok (.aload_n 0, 1) := by decide +kernel
theorem dX0_countWithin_13 : decode cX0_countWithin 13 = .ok (.getfield 9, 3) := by decide +kernel
theorem dX0_countWithin_16 : decode cX0_countWithin 16 = .ok (.iload 6, 2) := by decide +kernel
theorem dX0_countWithin_18 : decode cX0_countWithin 18 = .ok (.iaload, 1) := by decide +kernel
theorem dX0_countWithin_19 : decode cX0_countWithin 19 = .ok (.iload_n 3, 1) := by decide +kernel
theorem dX0_countWithin_20 : decode cX0_countWithin 20 = .ok (.if_icmp .lt 18, 3) := by decide +kernel
theorem dX0_countWithin_23 : decode cX0_countWithin 23 = .ok (.aload_n 0, 1) := by decide +kernel
theorem dX0_countWithin_24 : decode cX0_countWithin 24 = .ok (.getfield 9, 3) := by decide +kernel
theorem dX0_countWithin_27 : decode cX0_countWithin 27 = .ok (.iload 6, 2) := by decide +kernel
theorem dX0_countWithin_29 : decode cX0_countWithin 29 = .ok (.iaload, 1) := by decide +kernel
theorem dX0_countWithin_30 : decode cX0_countWithin 30 = .ok (.iload 4, 2) := by decide +kernel
theorem dX0_countWithin_32 : decode cX0_countWithin 32 = .ok (.if_icmp .gt 6, 3) := by decide +kernel
theorem dX0_countWithin_35 : decode cX0_countWithin 35 = .ok (.iinc 5 1, 3) := by decide +kernel
theorem dX0_countWithin_38 : decode cX0_countWithin 38 = .ok (.iinc 6 1, 3) := by decide +kernel
theorem dX0_countWithin_41 : decode cX0_countWithin 41 = .ok (.goto (-35), 3) := by decide +kernel
theorem dX0_countWithin_44 : decode cX0_countWithin 44 = .ok (.iload 5, 2) := by decide +kernel
theorem dX0_countWithin_46 : decode cX0_countWithin 46 = .ok (.ireturn, 1) := by decide +kernel
theorem dX0_weighBelow_0 : decode cX0_weighBelow 0 = .ok (.lconst 0, 1) := by decide +kernel
theorem dX0_weighBelow_1 : decode cX0_weighBelow 1 = .ok (.lstore 4, 2) := by decide +kernel
theorem dX0_weighBelow_3 : decode cX0_weighBelow 3 = .ok (.iload_n 1, 1) := by decide +kernel
theorem dX0_weighBelow_4 : decode cX0_weighBelow 4 = .ok (.istore 6, 2) := by decide +kernel
theorem dX0_weighBelow_6 : decode cX0_weighBelow 6 = .ok (.iload 6, 2) := by decide +kernel
theorem dX0_weighBelow_8 : decode cX0_weighBelow 8 = .ok (.iload_n 2, 1) := by decide +kernel
theorem dX0_weighBelow_9 : decode cX0_weighBelow 9 = .ok (.if_icmp .ge 33, 3) := by decide +kernel
theorem dX0_weighBelow_12 : decode cX0_weighBelow 12 = .ok (.aload_n 0, 1) := by decide +kernel
theorem dX0_weighBelow_13 : decode cX0_weighBelow 13 = .ok (.getfield 9, 3) := by decide +kernel
theorem dX0_weighBelow_16 : decode cX0_weighBelow 16 = .ok (.iload 6, 2) := by decide +kernel
theorem dX0_weighBelow_18 : decode cX0_weighBelow 18 = .ok (.iaload, 1) := by decide +kernel
theorem dX0_weighBelow_19 : decode cX0_weighBelow 19 = .ok (.iload_n 3, 1) := by decide +kernel
theorem dX0_weighBelow_20 : decode cX0_weighBelow 20 = .ok (.if_icmp .ge 16, 3) := by decide +kernel
theorem dX0_weighBelow_23 : decode cX0_weighBelow 23 = .ok (.lload 4, 2) := by decide +kernel
theorem dX0_weighBelow_25 : decode cX0_weighBelow 25 = .ok (.aload_n 0, 1) := by decide +kernel
theorem dX0_weighBelow_26 : decode cX0_weighBelow 26 = .ok (.getfield 15, 3) := by decide +kernel
theorem dX0_weighBelow_29 : decode cX0_weighBelow 29 = .ok (.iload 6, 2) := by decide +kernel
theorem dX0_weighBelow_31 : decode cX0_weighBelow 31 = .ok (.iaload, 1) := by decide +kernel
theorem dX0_weighBelow_32 : decode cX0_weighBelow 32 = .ok (.i2l, 1) := by decide +kernel
theorem dX0_weighBelow_33 : decode cX0_weighBelow 33 = .ok (.ladd, 1) := by decide +kernel
theorem dX0_weighBelow_34 : decode cX0_weighBelow 34 = .ok (.lstore 4, 2) := by decide +kernel
theorem dX0_weighBelow_36 : decode cX0_weighBelow 36 = .ok (.iinc 6 1, 3) := by decide +kernel
theorem dX0_weighBelow_39 : decode cX0_weighBelow 39 = .ok (.goto (-33), 3) := by decide +kernel
theorem dX0_weighBelow_42 : decode cX0_weighBelow 42 = .ok (.lload 4, 2) := by decide +kernel
theorem dX0_weighBelow_44 : decode cX0_weighBelow 44 = .ok (.lreturn, 1) := by decide +kernel
theorem dX0_leastFrom_0 : decode cX0_leastFrom 0 = .ok (.bipush (-6), 2) := by decide +kernel
theorem dX0_leastFrom_2 : decode cX0_leastFrom 2 = .ok (.istore 4, 2) := by decide +kernel
theorem dX0_leastFrom_4 : decode cX0_leastFrom 4 = .ok (.iload_n 1, 1) := by decide +kernel
theorem dX0_leastFrom_5 : decode cX0_leastFrom 5 = .ok (.istore 5, 2) := by decide +kernel
theorem dX0_leastFrom_7 : decode cX0_leastFrom 7 = .ok (.iload 5, 2) := by decide +kernel
theorem dX0_leastFrom_9 : decode cX0_leastFrom 9 = .ok (.iload_n 2, 1) := by decide +kernel
theorem dX0_leastFrom_10 : decode cX0_leastFrom 10 = .ok (.if_icmp .ge 48, 3) := by decide +kernel
theorem dX0_leastFrom_13 : decode cX0_leastFrom 13 = .ok (.aload_n 0, 1) := by decide +kernel
theorem dX0_leastFrom_14 : decode cX0_leastFrom 14 = .ok (.getfield 9, 3) := by decide +kernel
theorem dX0_leastFrom_17 : decode cX0_leastFrom 17 = .ok (.iload 5, 2) := by decide +kernel
theorem dX0_leastFrom_19 : decode cX0_leastFrom 19 = .ok (.iaload, 1) := by decide +kernel
theorem dX0_leastFrom_20 : decode cX0_leastFrom 20 = .ok (.iload_n 3, 1) := by decide +kernel
theorem dX0_leastFrom_21 : decode cX0_leastFrom 21 = .ok (.if_icmp .lt 31, 3) := by decide +kernel
theorem dX0_leastFrom_24 : decode cX0_leastFrom 24 = .ok (.iload 4, 2) := by decide +kernel
theorem dX0_leastFrom_26 : decode cX0_leastFrom 26 = .ok (.bipush (-6), 2) := by decide +kernel
theorem dX0_leastFrom_28 : decode cX0_leastFrom 28 = .ok (.if_icmp .eq 15, 3) := by decide +kernel
theorem dX0_leastFrom_31 : decode cX0_leastFrom 31 = .ok (.aload_n 0, 1) := by decide +kernel
theorem dX0_leastFrom_32 : decode cX0_leastFrom 32 = .ok (.getfield 9, 3) := by decide +kernel
theorem dX0_leastFrom_35 : decode cX0_leastFrom 35 = .ok (.iload 5, 2) := by decide +kernel
theorem dX0_leastFrom_37 : decode cX0_leastFrom 37 = .ok (.iaload, 1) := by decide +kernel
theorem dX0_leastFrom_38 : decode cX0_leastFrom 38 = .ok (.iload 4, 2) := by decide +kernel
theorem dX0_leastFrom_40 : decode cX0_leastFrom 40 = .ok (.if_icmp .ge 12, 3) := by decide +kernel
theorem dX0_leastFrom_43 : decode cX0_leastFrom 43 = .ok (.aload_n 0, 1) := by decide +kernel
theorem dX0_leastFrom_44 : decode cX0_leastFrom 44 = .ok (.getfield 9, 3) := by decide +kernel
theorem dX0_leastFrom_47 : decode cX0_leastFrom 47 = .ok (.iload 5, 2) := by decide +kernel
theorem dX0_leastFrom_49 : decode cX0_leastFrom 49 = .ok (.iaload, 1) := by decide +kernel
theorem dX0_leastFrom_50 : decode cX0_leastFrom 50 = .ok (.istore 4, 2) := by decide +kernel
theorem dX0_leastFrom_52 : decode cX0_leastFrom 52 = .ok (.iinc 5 1, 3) := by decide +kernel
theorem dX0_leastFrom_55 : decode cX0_leastFrom 55 = .ok (.goto (-48), 3) := by decide +kernel
theorem dX0_leastFrom_58 : decode cX0_leastFrom 58 = .ok (.iload 4, 2) := by decide +kernel
theorem dX0_leastFrom_60 : decode cX0_leastFrom 60 = .ok (.ireturn, 1) := by decide +kernel
theorem dX0_greatestTo_0 : decode cX0_greatestTo 0 = .ok (.bipush (-6), 2) := by decide +kernel
theorem dX0_greatestTo_2 : decode cX0_greatestTo 2 = .ok (.istore 4, 2) := by decide +kernel
theorem dX0_greatestTo_4 : decode cX0_greatestTo 4 = .ok (.iload_n 1, 1) := by decide +kernel
theorem dX0_greatestTo_5 : decode cX0_greatestTo 5 = .ok (.istore 5, 2) := by decide +kernel
theorem dX0_greatestTo_7 : decode cX0_greatestTo 7 = .ok (.iload 5, 2) := by decide +kernel
theorem dX0_greatestTo_9 : decode cX0_greatestTo 9 = .ok (.iload_n 2, 1) := by decide +kernel
theorem dX0_greatestTo_10 : decode cX0_greatestTo 10 = .ok (.if_icmp .ge 48, 3) := by decide +kernel
theorem dX0_greatestTo_13 : decode cX0_greatestTo 13 = .ok (.aload_n 0, 1) := by decide +kernel
theorem dX0_greatestTo_14 : decode cX0_greatestTo 14 = .ok (.getfield 9, 3) := by decide +kernel
theorem dX0_greatestTo_17 : decode cX0_greatestTo 17 = .ok (.iload 5, 2) := by decide +kernel
theorem dX0_greatestTo_19 : decode cX0_greatestTo 19 = .ok (.iaload, 1) := by decide +kernel
theorem dX0_greatestTo_20 : decode cX0_greatestTo 20 = .ok (.iload_n 3, 1) := by decide +kernel
theorem dX0_greatestTo_21 : decode cX0_greatestTo 21 = .ok (.if_icmp .gt 31, 3) := by decide +kernel
theorem dX0_greatestTo_24 : decode cX0_greatestTo 24 = .ok (.iload 4, 2) := by decide +kernel
theorem dX0_greatestTo_26 : decode cX0_greatestTo 26 = .ok (.bipush (-6), 2) := by decide +kernel
theorem dX0_greatestTo_28 : decode cX0_greatestTo 28 = .ok (.if_icmp .eq 15, 3) := by decide +kernel
theorem dX0_greatestTo_31 : decode cX0_greatestTo 31 = .ok (.aload_n 0, 1) := by decide +kernel
theorem dX0_greatestTo_32 : decode cX0_greatestTo 32 = .ok (.getfield 9, 3) := by decide +kernel
theorem dX0_greatestTo_35 : decode cX0_greatestTo 35 = .ok (.iload 5, 2) := by decide +kernel
theorem dX0_greatestTo_37 : decode cX0_greatestTo 37 = .ok (.iaload, 1) := by decide +kernel
theorem dX0_greatestTo_38 : decode cX0_greatestTo 38 = .ok (.iload 4, 2) := by decide +kernel
theorem dX0_greatestTo_40 : decode cX0_greatestTo 40 = .ok (.if_icmp .le 12, 3) := by decide +kernel
theorem dX0_greatestTo_43 : decode cX0_greatestTo 43 = .ok (.aload_n 0, 1) := by decide +kernel
theorem dX0_greatestTo_44 : decode cX0_greatestTo 44 = .ok (.getfield 9, 3) := by decide +kernel
theorem dX0_greatestTo_47 : decode cX0_greatestTo 47 = .ok (.iload 5, 2) := by decide +kernel
theorem dX0_greatestTo_49 : decode cX0_greatestTo 49 = .ok (.iaload, 1) := by decide +kernel
theorem dX0_greatestTo_50 : decode cX0_greatestTo 50 = .ok (.istore 4, 2) := by decide +kernel
theorem dX0_greatestTo_52 : decode cX0_greatestTo 52 = .ok (.iinc 5 1, 3) := by decide +kernel
theorem dX0_greatestTo_55 : decode cX0_greatestTo 55 = .ok (.goto (-48), 3) := by decide +kernel
theorem dX0_greatestTo_58 : decode cX0_greatestTo 58 = .ok (.iload 4, 2) := by decide +kernel
theorem dX0_greatestTo_60 : decode cX0_greatestTo 60 = .ok (.ireturn, 1) := by decide +kernel
theorem dX0_countOnes_0 : decode cX0_countOnes 0 = .ok (.iconst 0, 1) := by decide +kernel
theorem dX0_countOnes_1 : decode cX0_countOnes 1 = .ok (.istore_n 3, 1) := by decide +kernel
theorem dX0_countOnes_2 : decode cX0_countOnes 2 = .ok (.iconst 0, 1) := by decide +kernel
theorem dX0_countOnes_3 : decode cX0_countOnes 3 = .ok (.istore 4, 2) := by decide +kernel
theorem dX0_countOnes_5 : decode cX0_countOnes 5 = .ok (.iload 4, 2) := by decide +kernel
theorem dX0_countOnes_7 : decode cX0_countOnes 7 = .ok (.iload_n 2, 1) := by decide +kernel
theorem dX0_countOnes_8 : decode cX0_countOnes 8 = .ok (.if_icmp .ge 23, 3) := by decide +kernel
theorem dX0_countOnes_11 : decode cX0_countOnes 11 = .ok (.iload_n 3, 1) := by decide +kernel
theorem dX0_countOnes_12 : decode cX0_countOnes 12 = .ok (.aload_n 0, 1) := by decide +kernel
theorem dX0_countOnes_13 : decode cX0_countOnes 13 = .ok (.getfield 9, 3) := by decide +kernel
theorem dX0_countOnes_16 : decode cX0_countOnes 16 = .ok (.iload 4, 2) := by decide +kernel
theorem dX0_countOnes_18 : decode cX0_countOnes 18 = .ok (.iaload, 1) := by decide +kernel
theorem dX0_countOnes_19 : decode cX0_countOnes 19 = .ok (.iload_n 1, 1) := by decide +kernel
theorem dX0_countOnes_20 : decode cX0_countOnes 20 = .ok (.iushr, 1) := by decide +kernel
theorem dX0_countOnes_21 : decode cX0_countOnes 21 = .ok (.iconst 1, 1) := by decide +kernel
theorem dX0_countOnes_22 : decode cX0_countOnes 22 = .ok (.iand, 1) := by decide +kernel
theorem dX0_countOnes_23 : decode cX0_countOnes 23 = .ok (.iadd, 1) := by decide +kernel
theorem dX0_countOnes_24 : decode cX0_countOnes 24 = .ok (.istore_n 3, 1) := by decide +kernel
theorem dX0_countOnes_25 : decode cX0_countOnes 25 = .ok (.iinc 4 1, 3) := by decide +kernel
theorem dX0_countOnes_28 : decode cX0_countOnes 28 = .ok (.goto (-23), 3) := by decide +kernel
theorem dX0_countOnes_31 : decode cX0_countOnes 31 = .ok (.iload_n 3, 1) := by decide +kernel
theorem dX0_countOnes_32 : decode cX0_countOnes 32 = .ok (.ireturn, 1) := by decide +kernel
theorem dX0_splitBy_0 : decode cX0_splitBy 0 = .ok (.iconst 0, 1) := by decide +kernel
theorem dX0_splitBy_1 : decode cX0_splitBy 1 = .ok (.istore_n 2, 1) := by decide +kernel
theorem dX0_splitBy_2 : decode cX0_splitBy 2 = .ok (.iconst 0, 1) := by decide +kernel
theorem dX0_splitBy_3 : decode cX0_splitBy 3 = .ok (.istore_n 3, 1) := by decide +kernel
theorem dX0_splitBy_4 : decode cX0_splitBy 4 = .ok (.iconst 0, 1) := by decide +kernel
theorem dX0_splitBy_5 : decode cX0_splitBy 5 = .ok (.istore 4, 2) := by decide +kernel
theorem dX0_splitBy_7 : decode cX0_splitBy 7 = .ok (.iload 4, 2) := by decide +kernel
theorem dX0_splitBy_9 : decode cX0_splitBy 9 = .ok (.aload_n 0, 1) := by decide +kernel
theorem dX0_splitBy_10 : decode cX0_splitBy 10 = .ok (.getfield 27, 3) := by decide +kernel
theorem dX0_splitBy_13 : decode cX0_splitBy 13 = .ok (.if_icmp .ge 52, 3) := by decide +kernel
theorem dX0_splitBy_16 : decode cX0_splitBy 16 = .ok (.aload_n 0, 1) := by decide +kernel
theorem dX0_splitBy_17 : decode cX0_splitBy 17 = .ok (.getfield 9, 3) := by decide +kernel
theorem dX0_splitBy_20 : decode cX0_splitBy 20 = .ok (.iload 4, 2) := by decide +kernel
theorem dX0_splitBy_22 : decode cX0_splitBy 22 = .ok (.iaload, 1) := by decide +kernel
theorem dX0_splitBy_23 : decode cX0_splitBy 23 = .ok (.istore 5, 2) := by decide +kernel
theorem dX0_splitBy_25 : decode cX0_splitBy 25 = .ok (.iload 5, 2) := by decide +kernel
theorem dX0_splitBy_27 : decode cX0_splitBy 27 = .ok (.iload_n 1, 1) := by decide +kernel
theorem dX0_splitBy_28 : decode cX0_splitBy 28 = .ok (.iushr, 1) := by decide +kernel
theorem dX0_splitBy_29 : decode cX0_splitBy 29 = .ok (.iconst 1, 1) := by decide +kernel
theorem dX0_splitBy_30 : decode cX0_splitBy 30 = .ok (.iand, 1) := by decide +kernel
theorem dX0_splitBy_31 : decode cX0_splitBy 31 = .ok (.ifCond .ne 17, 3) := by decide +kernel
theorem dX0_splitBy_34 : decode cX0_splitBy 34 = .ok (.aload_n 0, 1) := by decide +kernel
theorem dX0_splitBy_35 : decode cX0_splitBy 35 = .ok (.getfield 9, 3) := by decide +kernel
theorem dX0_splitBy_38 : decode cX0_splitBy 38 = .ok (.iload_n 2, 1) := by decide +kernel
theorem dX0_splitBy_39 : decode cX0_splitBy 39 = .ok (.iload 5, 2) := by decide +kernel
theorem dX0_splitBy_41 : decode cX0_splitBy 41 = .ok (.iastore, 1) := by decide +kernel
theorem dX0_splitBy_42 : decode cX0_splitBy 42 = .ok (.iinc 2 1, 3) := by decide +kernel
theorem dX0_splitBy_45 : decode cX0_splitBy 45 = .ok (.goto 14, 3) := by decide +kernel
theorem dX0_splitBy_48 : decode cX0_splitBy 48 = .ok (.aload_n 0, 1) := by decide +kernel
theorem dX0_splitBy_49 : decode cX0_splitBy 49 = .ok (.getfield 18, 3) := by decide +kernel
theorem dX0_splitBy_52 : decode cX0_splitBy 52 = .ok (.iload_n 3, 1) := by decide +kernel
theorem dX0_splitBy_53 : decode cX0_splitBy 53 = .ok (.iload 5, 2) := by decide +kernel
theorem dX0_splitBy_55 : decode cX0_splitBy 55 = .ok (.iastore, 1) := by decide +kernel
theorem dX0_splitBy_56 : decode cX0_splitBy 56 = .ok (.iinc 3 1, 3) := by decide +kernel
theorem dX0_splitBy_59 : decode cX0_splitBy 59 = .ok (.iinc 4 1, 3) := by decide +kernel
theorem dX0_splitBy_62 : decode cX0_splitBy 62 = .ok (.goto (-55), 3) := by decide +kernel
theorem dX0_splitBy_65 : decode cX0_splitBy 65 = .ok (.iconst 0, 1) := by decide +kernel
theorem dX0_splitBy_66 : decode cX0_splitBy 66 = .ok (.istore 4, 2) := by decide +kernel
theorem dX0_splitBy_68 : decode cX0_splitBy 68 = .ok (.iload 4, 2) := by decide +kernel
theorem dX0_splitBy_70 : decode cX0_splitBy 70 = .ok (.iload_n 3, 1) := by decide +kernel
theorem dX0_splitBy_71 : decode cX0_splitBy 71 = .ok (.if_icmp .ge 25, 3) := by decide +kernel
theorem dX0_splitBy_74 : decode cX0_splitBy 74 = .ok (.aload_n 0, 1) := by decide +kernel
theorem dX0_splitBy_75 : decode cX0_splitBy 75 = .ok (.getfield 9, 3) := by decide +kernel
theorem dX0_splitBy_78 : decode cX0_splitBy 78 = .ok (.iload_n 2, 1) := by decide +kernel
theorem dX0_splitBy_79 : decode cX0_splitBy 79 = .ok (.iload 4, 2) := by decide +kernel
theorem dX0_splitBy_81 : decode cX0_splitBy 81 = .ok (.iadd, 1) := by decide +kernel
theorem dX0_splitBy_82 : decode cX0_splitBy 82 = .ok (.aload_n 0, 1) := by decide +kernel
theorem dX0_splitBy_83 : decode cX0_splitBy 83 = .ok (.getfield 18, 3) := by decide +kernel
theorem dX0_splitBy_86 : decode cX0_splitBy 86 = .ok (.iload 4, 2) := by decide +kernel
theorem dX0_splitBy_88 : decode cX0_splitBy 88 = .ok (.iaload, 1) := by decide +kernel
theorem dX0_splitBy_89 : decode cX0_splitBy 89 = .ok (.iastore, 1) := by decide +kernel
theorem dX0_splitBy_90 : decode cX0_splitBy 90 = .ok (.iinc 4 1, 3) := by decide +kernel
theorem dX0_splitBy_93 : decode cX0_splitBy 93 = .ok (.goto (-25), 3) := by decide +kernel
theorem dX0_splitBy_96 : decode cX0_splitBy 96 = .ok (.return_, 1) := by decide +kernel
theorem dX0_placeApartFrom_0 : decode cX0_placeApartFrom 0 = .ok (.aload_n 0, 1) := by decide +kernel
theorem dX0_placeApartFrom_1 : decode cX0_placeApartFrom 1 = .ok (.getfield 27, 3) := by decide +kernel
theorem dX0_placeApartFrom_4 : decode cX0_placeApartFrom 4 = .ok (.aload_n 1, 1) := by decide +kernel
theorem dX0_placeApartFrom_5 : decode cX0_placeApartFrom 5 = .ok (.getfield 27, 3) := by decide +kernel
theorem dX0_placeApartFrom_8 : decode cX0_placeApartFrom 8 = .ok (.invokestatic 37, 3) := by decide +kernel
theorem dX0_placeApartFrom_11 : decode cX0_placeApartFrom 11 = .ok (.istore_n 2, 1) := by decide +kernel
theorem dX0_placeApartFrom_12 : decode cX0_placeApartFrom 12 = .ok (.iconst 0, 1) := by decide +kernel
theorem dX0_placeApartFrom_13 : decode cX0_placeApartFrom 13 = .ok (.istore_n 3, 1) := by decide +kernel
theorem dX0_placeApartFrom_14 : decode cX0_placeApartFrom 14 = .ok (.iload_n 3, 1) := by decide +kernel
theorem dX0_placeApartFrom_15 : decode cX0_placeApartFrom 15 = .ok (.iload_n 2, 1) := by decide +kernel
theorem dX0_placeApartFrom_16 : decode cX0_placeApartFrom 16 = .ok (.if_icmp .ge 41, 3) := by decide +kernel
theorem dX0_placeApartFrom_19 : decode cX0_placeApartFrom 19 = .ok (.aload_n 0, 1) := by decide +kernel
theorem dX0_placeApartFrom_20 : decode cX0_placeApartFrom 20 = .ok (.getfield 9, 3) := by decide +kernel
theorem dX0_placeApartFrom_23 : decode cX0_placeApartFrom 23 = .ok (.iload_n 3, 1) := by decide +kernel
theorem dX0_placeApartFrom_24 : decode cX0_placeApartFrom 24 = .ok (.iaload, 1) := by decide +kernel
theorem dX0_placeApartFrom_25 : decode cX0_placeApartFrom 25 = .ok (.aload_n 1, 1) := by decide +kernel
theorem dX0_placeApartFrom_26 : decode cX0_placeApartFrom 26 = .ok (.getfield 9, 3) := by decide +kernel
theorem dX0_placeApartFrom_29 : decode cX0_placeApartFrom 29 = .ok (.iload_n 3, 1) := by decide +kernel
theorem dX0_placeApartFrom_30 : decode cX0_placeApartFrom 30 = .ok (.iaload, 1) := by decide +kernel
theorem dX0_placeApartFrom_31 : decode cX0_placeApartFrom 31 = .ok (.if_icmp .ne 18, 3) := by decide +kernel
theorem dX0_placeApartFrom_34 : decode cX0_placeApartFrom 34 = .ok (.aload_n 0, 1) := by decide +kernel
theorem dX0_placeApartFrom_35 : decode cX0_placeApartFrom 35 = .ok (.getfield 15, 3) := by decide +kernel
theorem dX0_placeApartFrom_38 : decode cX0_placeApartFrom 38 = .ok (.iload_n 3, 1) := by decide +kernel
theorem dX0_placeApartFrom_39 : decode cX0_placeApartFrom 39 = .ok (.iaload, 1) := by decide +kernel
theorem dX0_placeApartFrom_40 : decode cX0_placeApartFrom 40 = .ok (.aload_n 1, 1) := by decide +kernel
theorem dX0_placeApartFrom_41 : decode cX0_placeApartFrom 41 = .ok (.getfield 15, 3) := by decide +kernel
theorem dX0_placeApartFrom_44 : decode cX0_placeApartFrom 44 = .ok (.iload_n 3, 1) := by decide +kernel
theorem dX0_placeApartFrom_45 : decode cX0_placeApartFrom 45 = .ok (.iaload, 1) := by decide +kernel
theorem dX0_placeApartFrom_46 : decode cX0_placeApartFrom 46 = .ok (.if_icmp .eq 5, 3) := by decide +kernel
theorem dX0_placeApartFrom_49 : decode cX0_placeApartFrom 49 = .ok (.iload_n 3, 1) := by decide +kernel
theorem dX0_placeApartFrom_50 : decode cX0_placeApartFrom 50 = .ok (.ireturn, 1) := by decide +kernel
theorem dX0_placeApartFrom_51 : decode cX0_placeApartFrom 51 = .ok (.iinc 3 1, 3) := by decide +kernel
theorem dX0_placeApartFrom_54 : decode cX0_placeApartFrom 54 = .ok (.goto (-40), 3) := by decide +kernel
theorem dX0_placeApartFrom_57 : decode cX0_placeApartFrom 57 = .ok (.aload_n 0, 1) := by decide +kernel
theorem dX0_placeApartFrom_58 : decode cX0_placeApartFrom 58 = .ok (.getfield 27, 3) := by decide +kernel
theorem dX0_placeApartFrom_61 : decode cX0_placeApartFrom 61 = .ok (.aload_n 1, 1) := by decide +kernel
theorem dX0_placeApartFrom_62 : decode cX0_placeApartFrom 62 = .ok (.getfield 27, 3) := by decide +kernel
theorem dX0_placeApartFrom_65 : decode cX0_placeApartFrom 65 = .ok (.if_icmp .ne 8, 3) := by decide +kernel
theorem dX0_placeApartFrom_68 : decode cX0_placeApartFrom 68 = .ok (.bipush (-6), 2) := by decide +kernel
theorem dX0_placeApartFrom_70 : decode cX0_placeApartFrom 70 = .ok (.goto 4, 3) := by decide +kernel
theorem dX0_placeApartFrom_73 : decode cX0_placeApartFrom 73 = .ok (.iload_n 2, 1) := by decide +kernel
theorem dX0_placeApartFrom_74 : decode cX0_placeApartFrom 74 = .ok (.ireturn, 1) := by decide +kernel
theorem dX1_init_0 : decode cX1_init 0 = .ok (.aload_n 0, 1) := by decide +kernel
theorem dX1_init_1 : decode cX1_init 1 = .ok (.invokespecial 3, 3) := by decide +kernel
theorem dX1_init_4 : decode cX1_init 4 = .ok (.aload_n 0, 1) := by decide +kernel
theorem dX1_init_5 : decode cX1_init 5 = .ok (.sipush 1024, 3) := by decide +kernel
theorem dX1_init_8 : decode cX1_init 8 = .ok (.newarray .int, 2) := by decide +kernel
theorem dX1_init_10 : decode cX1_init 10 = .ok (.putfield 9, 3) := by decide +kernel
theorem dX1_init_13 : decode cX1_init 13 = .ok (.aload_n 0, 1) := by decide +kernel
theorem dX1_init_14 : decode cX1_init 14 = .ok (.sipush 401, 3) := by decide +kernel
theorem dX1_init_17 : decode cX1_init 17 = .ok (.newarray .int, 2) := by decide +kernel
theorem dX1_init_19 : decode cX1_init 19 = .ok (.putfield 15, 3) := by decide +kernel
theorem dX1_init_22 : decode cX1_init 22 = .ok (.return_, 1) := by decide +kernel
theorem dX1_clear_0 : decode cX1_clear 0 = .ok (.aload_n 0, 1) := by decide +kernel
theorem dX1_clear_1 : decode cX1_clear 1 = .ok (.getfield 9, 3) := by decide +kernel
theorem dX1_clear_4 : decode cX1_clear 4 = .ok (.iconst 0, 1) := by decide +kernel
theorem dX1_clear_5 : decode cX1_clear 5 = .ok (.invokestatic 18, 3) := by decide +kernel
theorem dX1_clear_8 : decode cX1_clear 8 = .ok (.return_, 1) := by decide +kernel
theorem dX1_count_0 : decode cX1_count 0 = .ok (.iload_n 2, 1) := by decide +kernel
theorem dX1_count_1 : decode cX1_count 1 = .ok (.istore 5, 2) := by decide +kernel
theorem dX1_count_3 : decode cX1_count 3 = .ok (.iload 5, 2) := by decide +kernel
theorem dX1_count_5 : decode cX1_count 5 = .ok (.iload_n 3, 1) := by decide +kernel
theorem dX1_count_6 : decode cX1_count 6 = .ok (.if_icmp .ge 26, 3) := by decide +kernel
theorem dX1_count_9 : decode cX1_count 9 = .ok (.aload_n 0, 1) := by decide +kernel
theorem dX1_count_10 : decode cX1_count 10 = .ok (.getfield 9, 3) := by decide +kernel
theorem dX1_count_13 : decode cX1_count 13 = .ok (.aload_n 1, 1) := by decide +kernel
theorem dX1_count_14 : decode cX1_count 14 = .ok (.getfield 24, 3) := by decide +kernel
theorem dX1_count_17 : decode cX1_count 17 = .ok (.iload 5, 2) := by decide +kernel
theorem dX1_count_19 : decode cX1_count 19 = .ok (.iaload, 1) := by decide +kernel
theorem dX1_count_20 : decode cX1_count 20 = .ok (.dup2, 1) := by decide +kernel
theorem dX1_count_21 : decode cX1_count 21 = .ok (.iaload, 1) := by decide +kernel
theorem dX1_count_22 : decode cX1_count 22 = .ok (.iload 4, 2) := by decide +kernel
theorem dX1_count_24 : decode cX1_count 24 = .ok (.iadd, 1) := by decide +kernel
theorem dX1_count_25 : decode cX1_count 25 = .ok (.iastore, 1) := by decide +kernel
theorem dX1_count_26 : decode cX1_count 26 = .ok (.iinc 5 1, 3) := by decide +kernel
theorem dX1_count_29 : decode cX1_count 29 = .ok (.goto (-26), 3) := by decide +kernel
theorem dX1_count_32 : decode cX1_count 32 = .ok (.return_, 1) := by decide +kernel
theorem dX1_countDifferent_0 : decode cX1_countDifferent 0 = .ok (.iconst 0, 1) := by decide +kernel
theorem dX1_countDifferent_1 : decode cX1_countDifferent 1 = .ok (.istore_n 1, 1) := by decide +kernel
theorem dX1_countDifferent_2 : decode cX1_countDifferent 2 = .ok (.iconst 0, 1) := by decide +kernel
theorem dX1_countDifferent_3 : decode cX1_countDifferent 3 = .ok (.istore_n 2, 1) := by decide +kernel
theorem dX1_countDifferent_4 : decode cX1_countDifferent 4 = .ok (.iload_n 2, 1) := by decide +kernel
theorem dX1_countDifferent_5 : decode cX1_countDifferent 5 = .ok (.sipush 1023, 3) := by decide +kernel
theorem dX1_countDifferent_8 : decode cX1_countDifferent 8 = .ok (.if_icmp .gt 21, 3) := by decide +kernel
theorem dX1_countDifferent_11 : decode cX1_countDifferent 11 = .ok (.aload_n 0, 1) := by decide +kernel
theorem dX1_countDifferent_12 : decode cX1_countDifferent 12 = .ok (.getfield 9, 3) := by decide +kernel
theorem dX1_countDifferent_15 : decode cX1_countDifferent 15 = .ok (.iload_n 2, 1) := by decide +kernel
theorem dX1_countDifferent_16 : decode cX1_countDifferent 16 = .ok (.iaload, 1) := by decide +kernel
theorem dX1_countDifferent_17 : decode cX1_countDifferent 17 = .ok (.ifCond .eq 6, 3) := by decide +kernel
theorem dX1_countDifferent_20 : decode cX1_countDifferent 20 = .ok (.iinc 1 1, 3) := by decide +kernel
theorem dX1_countDifferent_23 : decode cX1_countDifferent 23 = .ok (.iinc 2 1, 3) := by decide +kernel
theorem dX1_countDifferent_26 : decode cX1_countDifferent 26 = .ok (.goto (-22), 3) := by decide +kernel
theorem dX1_countDifferent_29 : decode cX1_countDifferent 29 = .ok (.iload_n 1, 1) := by decide +kernel
theorem dX1_countDifferent_30 : decode cX1_countDifferent 30 = .ok (.ireturn, 1) := by decide +kernel
theorem dX1_leastUneven_0 : decode cX1_leastUneven 0 = .ok (.iconst 0, 1) := by decide +kernel
theorem dX1_leastUneven_1 : decode cX1_leastUneven 1 = .ok (.istore_n 1, 1) := by decide +kernel
theorem dX1_leastUneven_2 : decode cX1_leastUneven 2 = .ok (.iload_n 1, 1) := by decide +kernel
theorem dX1_leastUneven_3 : decode cX1_leastUneven 3 = .ok (.sipush 1023, 3) := by decide +kernel
theorem dX1_leastUneven_6 : decode cX1_leastUneven 6 = .ok (.if_icmp .gt 20, 3) := by decide +kernel
theorem dX1_leastUneven_9 : decode cX1_leastUneven 9 = .ok (.aload_n 0, 1) := by decide +kernel
theorem dX1_leastUneven_10 : decode cX1_leastUneven 10 = .ok (.getfield 9, 3) := by decide +kernel
theorem dX1_leastUneven_13 : decode cX1_leastUneven 13 = .ok (.iload_n 1, 1) := by decide +kernel
theorem dX1_leastUneven_14 : decode cX1_leastUneven 14 = .ok (.iaload, 1) := by decide +kernel
theorem dX1_leastUneven_15 : decode cX1_leastUneven 15 = .ok (.ifCond .eq 5, 3) := by decide +kernel
theorem dX1_leastUneven_18 : decode cX1_leastUneven 18 = .ok (.iload_n 1, 1) := by decide +kernel
theorem dX1_leastUneven_19 : decode cX1_leastUneven 19 = .ok (.ireturn, 1) := by decide +kernel
theorem dX1_leastUneven_20 : decode cX1_leastUneven 20 = .ok (.iinc 1 1, 3) := by decide +kernel
theorem dX1_leastUneven_23 : decode cX1_leastUneven 23 = .ok (.goto (-21), 3) := by decide +kernel
theorem dX1_leastUneven_26 : decode cX1_leastUneven 26 = .ok (.bipush (-6), 2) := by decide +kernel
theorem dX1_leastUneven_28 : decode cX1_leastUneven 28 = .ok (.ireturn, 1) := by decide +kernel
theorem dX1_valueOfMoreThan_0 : decode cX1_valueOfMoreThan 0 = .ok (.iconst 0, 1) := by decide +kernel
theorem dX1_valueOfMoreThan_1 : decode cX1_valueOfMoreThan 1 = .ok (.istore_n 2, 1) := by decide +kernel
theorem dX1_valueOfMoreThan_2 : decode cX1_valueOfMoreThan 2 = .ok (.iload_n 2, 1) := by decide +kernel
theorem dX1_valueOfMoreThan_3 : decode cX1_valueOfMoreThan 3 = .ok (.sipush 1023, 3) := by decide +kernel
theorem dX1_valueOfMoreThan_6 : decode cX1_valueOfMoreThan 6 = .ok (.if_icmp .gt 21, 3) := by decide +kernel
theorem dX1_valueOfMoreThan_9 : decode cX1_valueOfMoreThan 9 = .ok (.aload_n 0, 1) := by decide +kernel
theorem dX1_valueOfMoreThan_10 : decode cX1_valueOfMoreThan 10 = .ok (.getfield 9, 3) := by decide +kernel
theorem dX1_valueOfMoreThan_13 : decode cX1_valueOfMoreThan 13 = .ok (.iload_n 2, 1) := by decide +kernel
theorem dX1_valueOfMoreThan_14 : decode cX1_valueOfMoreThan 14 = .ok (.iaload, 1) := by decide +kernel
theorem dX1_valueOfMoreThan_15 : decode cX1_valueOfMoreThan 15 = .ok (.iload_n 1, 1) := by decide +kernel
theorem dX1_valueOfMoreThan_16 : decode cX1_valueOfMoreThan 16 = .ok (.if_icmp .le 5, 3) := by decide +kernel
theorem dX1_valueOfMoreThan_19 : decode cX1_valueOfMoreThan 19 = .ok (.iload_n 2, 1) := by decide +kernel
theorem dX1_valueOfMoreThan_20 : decode cX1_valueOfMoreThan 20 = .ok (.ireturn, 1) := by decide +kernel
theorem dX1_valueOfMoreThan_21 : decode cX1_valueOfMoreThan 21 = .ok (.iinc 2 1, 3) := by decide +kernel
theorem dX1_valueOfMoreThan_24 : decode cX1_valueOfMoreThan 24 = .ok (.goto (-22), 3) := by decide +kernel
theorem dX1_valueOfMoreThan_27 : decode cX1_valueOfMoreThan 27 = .ok (.bipush (-6), 2) := by decide +kernel
theorem dX1_valueOfMoreThan_29 : decode cX1_valueOfMoreThan 29 = .ok (.ireturn, 1) := by decide +kernel
theorem dX1_oftenest_0 : decode cX1_oftenest 0 = .ok (.iload_n 1, 1) := by decide +kernel
theorem dX1_oftenest_1 : decode cX1_oftenest 1 = .ok (.ifCond .ge 6, 3) := by decide +kernel
theorem dX1_oftenest_4 : decode cX1_oftenest 4 = .ok (.bipush (-6), 2) := by decide +kernel
theorem dX1_oftenest_6 : decode cX1_oftenest 6 = .ok (.ireturn, 1) := by decide +kernel
theorem dX1_oftenest_7 : decode cX1_oftenest 7 = .ok (.aload_n 0, 1) := by decide +kernel
theorem dX1_oftenest_8 : decode cX1_oftenest 8 = .ok (.invokevirtual 29, 3) := by decide +kernel
theorem dX1_oftenest_11 : decode cX1_oftenest 11 = .ok (.iload_n 1, 1) := by decide +kernel
theorem dX1_oftenest_12 : decode cX1_oftenest 12 = .ok (.istore_n 2, 1) := by decide +kernel
theorem dX1_oftenest_13 : decode cX1_oftenest 13 = .ok (.sipush 400, 3) := by decide +kernel
theorem dX1_oftenest_16 : decode cX1_oftenest 16 = .ok (.istore_n 3, 1) := by decide +kernel
theorem dX1_oftenest_17 : decode cX1_oftenest 17 = .ok (.iload_n 3, 1) := by decide +kernel
theorem dX1_oftenest_18 : decode cX1_oftenest 18 = .ok (.ifCond .le 35, 3) := by decide +kernel
theorem dX1_oftenest_21 : decode cX1_oftenest 21 = .ok (.iload_n 2, 1) := by decide +kernel
theorem dX1_oftenest_22 : decode cX1_oftenest 22 = .ok (.aload_n 0, 1) := by decide +kernel
theorem dX1_oftenest_23 : decode cX1_oftenest 23 = .ok (.getfield 15, 3) := by decide +kernel
theorem dX1_oftenest_26 : decode cX1_oftenest 26 = .ok (.iload_n 3, 1) := by decide +kernel
theorem dX1_oftenest_27 : decode cX1_oftenest 27 = .ok (.iaload, 1) := by decide +kernel
theorem dX1_oftenest_28 : decode cX1_oftenest 28 = .ok (.if_icmp .ge 10, 3) := by decide +kernel
theorem dX1_oftenest_31 : decode cX1_oftenest 31 = .ok (.aload_n 0, 1) := by decide +kernel
theorem dX1_oftenest_32 : decode cX1_oftenest 32 = .ok (.iload_n 3, 1) := by decide +kernel
theorem dX1_oftenest_33 : decode cX1_oftenest 33 = .ok (.iload_n 2, 1) := by decide +kernel
theorem dX1_oftenest_34 : decode cX1_oftenest 34 = .ok (.invokevirtual 32, 3) := by decide +kernel
theorem dX1_oftenest_37 : decode cX1_oftenest 37 = .ok (.ireturn, 1) := by decide +kernel
theorem dX1_oftenest_38 : decode cX1_oftenest 38 = .ok (.iload_n 2, 1) := by decide +kernel
theorem dX1_oftenest_39 : decode cX1_oftenest 39 = .ok (.aload_n 0, 1) := by decide +kernel
theorem dX1_oftenest_40 : decode cX1_oftenest 40 = .ok (.getfield 15, 3) := by decide +kernel
theorem dX1_oftenest_43 : decode cX1_oftenest 43 = .ok (.iload_n 3, 1) := by decide +kernel
theorem dX1_oftenest_44 : decode cX1_oftenest 44 = .ok (.iaload, 1) := by decide +kernel
theorem dX1_oftenest_45 : decode cX1_oftenest 45 = .ok (.isub, 1) := by decide +kernel
theorem dX1_oftenest_46 : decode cX1_oftenest 46 = .ok (.istore_n 2, 1) := by decide +kernel
theorem dX1_oftenest_47 : decode cX1_oftenest 47 = .ok (.iinc 3 (-1), 3) := by decide +kernel
theorem dX1_oftenest_50 : decode cX1_oftenest 50 = .ok (.goto (-33), 3) := by decide +kernel
theorem dX1_oftenest_53 : decode cX1_oftenest 53 = .ok (.bipush (-6), 2) := by decide +kernel
theorem dX1_oftenest_55 : decode cX1_oftenest 55 = .ok (.ireturn, 1) := by decide +kernel
theorem dX1_groupByCount_0 : decode cX1_groupByCount 0 = .ok (.aload_n 0, 1) := by decide +kernel
theorem dX1_groupByCount_1 : decode cX1_groupByCount 1 = .ok (.getfield 15, 3) := by decide +kernel
theorem dX1_groupByCount_4 : decode cX1_groupByCount 4 = .ok (.iconst 0, 1) := by decide +kernel
theorem dX1_groupByCount_5 : decode cX1_groupByCount 5 = .ok (.invokestatic 18, 3) := by decide +kernel
theorem dX1_groupByCount_8 : decode cX1_groupByCount 8 = .ok (.iconst 0, 1) := by decide +kernel
theorem dX1_groupByCount_9 : decode cX1_groupByCount 9 = .ok (.istore_n 1, 1) := by decide +kernel
theorem dX1_groupByCount_10 : decode cX1_groupByCount 10 = .ok (.iload_n 1, 1) := by decide +kernel
theorem dX1_groupByCount_11 : decode cX1_groupByCount 11 = .ok (.sipush 1023, 3) := by decide +kernel
theorem dX1_groupByCount_14 : decode cX1_groupByCount 14 = .ok (.if_icmp .gt 24, 3) := by decide +kernel
theorem dX1_groupByCount_17 : decode cX1_groupByCount 17 = .ok (.aload_n 0, 1) := by decide +kernel
theorem dX1_groupByCount_18 : decode cX1_groupByCount 18 = .ok (.getfield 15, 3) := by decide +kernel
theorem dX1_groupByCount_21 : decode cX1_groupByCount 21 = .ok (.aload_n 0, 1) := by decide +kernel
theorem dX1_groupByCount_22 : decode cX1_groupByCount 22 = .ok (.getfield 9, 3) := by decide +kernel
theorem dX1_groupByCount_25 : decode cX1_groupByCount 25 = .ok (.iload_n 1, 1) := by decide +kernel
theorem dX1_groupByCount_26 : decode cX1_groupByCount 26 = .ok (.iaload, 1) := by decide +kernel
theorem dX1_groupByCount_27 : decode cX1_groupByCount 27 = .ok (.dup2, 1) := by decide +kernel
theorem dX1_groupByCount_28 : decode cX1_groupByCount 28 = .ok (.iaload, 1) := by decide +kernel
theorem dX1_groupByCount_29 : decode cX1_groupByCount 29 = .ok (.iconst 1, 1) := by decide +kernel
theorem dX1_groupByCount_30 : decode cX1_groupByCount 30 = .ok (.iadd, 1) := by decide +kernel
theorem dX1_groupByCount_31 : decode cX1_groupByCount 31 = .ok (.iastore, 1) := by decide +kernel
theorem dX1_groupByCount_32 : decode cX1_groupByCount 32 = .ok (.iinc 1 1, 3) := by decide +kernel
theorem dX1_groupByCount_35 : decode cX1_groupByCount 35 = .ok (.goto (-25), 3) := by decide +kernel
theorem dX1_groupByCount_38 : decode cX1_groupByCount 38 = .ok (.return_, 1) := by decide +kernel
theorem dX1_valueOfCount_0 : decode cX1_valueOfCount 0 = .ok (.iload_n 2, 1) := by decide +kernel
theorem dX1_valueOfCount_1 : decode cX1_valueOfCount 1 = .ok (.istore_n 3, 1) := by decide +kernel
theorem dX1_valueOfCount_2 : decode cX1_valueOfCount 2 = .ok (.iconst 0, 1) := by decide +kernel
theorem dX1_valueOfCount_3 : decode cX1_valueOfCount 3 = .ok (.istore 4, 2) := by decide +kernel
theorem dX1_valueOfCount_5 : decode cX1_valueOfCount 5 = .ok (.iload 4, 2) := by decide +kernel
theorem dX1_valueOfCount_7 : decode cX1_valueOfCount 7 = .ok (.sipush 1023, 3) := by decide +kernel
theorem dX1_valueOfCount_10 : decode cX1_valueOfCount 10 = .ok (.if_icmp .gt 30, 3) := by decide +kernel
theorem dX1_valueOfCount_13 : decode cX1_valueOfCount 13 = .ok (.aload_n 0, 1) := by decide +kernel
theorem dX1_valueOfCount_14 : decode cX1_valueOfCount 14 = .ok (.getfield 9, 3) := by decide +kernel
theorem dX1_valueOfCount_17 : decode cX1_valueOfCount 17 = .ok (.iload 4, 2) := by decide +kernel
theorem dX1_valueOfCount_19 : decode cX1_valueOfCount 19 = .ok (.iaload, 1) := by decide +kernel
theorem dX1_valueOfCount_20 : decode cX1_valueOfCount 20 = .ok (.iload_n 1, 1) := by decide +kernel
theorem dX1_valueOfCount_21 : decode cX1_valueOfCount 21 = .ok (.if_icmp .ne 13, 3) := by decide +kernel
theorem dX1_valueOfCount_24 : decode cX1_valueOfCount 24 = .ok (.iload_n 3, 1) := by decide +kernel
theorem dX1_valueOfCount_25 : decode cX1_valueOfCount 25 = .ok (.ifCond .ne 6, 3) := by decide +kernel
theorem dX1_valueOfCount_28 : decode cX1_valueOfCount 28 = .ok (.iload 4, 2) := by decide +kernel
theorem dX1_valueOfCount_30 : decode cX1_valueOfCount 30 = .ok (.ireturn, 1) := by decide +kernel
theorem dX1_valueOfCount_31 : decode cX1_valueOfCount 31 = .ok (.iinc 3 (-1), 3) := by decide +kernel
theorem dX1_valueOfCount_34 : decode cX1_valueOfCount 34 = .ok (.iinc 4 1, 3) := by decide +kernel
theorem dX1_valueOfCount_37 : decode cX1_valueOfCount 37 = .ok (.goto (-32), 3) := by decide +kernel
theorem dX1_valueOfCount_40 : decode cX1_valueOfCount 40 = .ok (.bipush (-6), 2) := by decide +kernel
theorem dX1_valueOfCount_42 : decode cX1_valueOfCount 42 = .ok (.ireturn, 1) := by decide +kernel
theorem dX2_init_0 : decode cX2_init 0 = .ok (.aload_n 0, 1) := by decide +kernel
theorem dX2_init_1 : decode cX2_init 1 = .ok (.invokespecial 1, 3) := by decide +kernel
theorem dX2_init_4 : decode cX2_init 4 = .ok (.iload 4, 2) := by decide +kernel
theorem dX2_init_6 : decode cX2_init 6 = .ok (.iconst 0, 1) := by decide +kernel
theorem dX2_init_7 : decode cX2_init 7 = .ok (.invokestatic 7, 3) := by decide +kernel
theorem dX2_init_10 : decode cX2_init 10 = .ok (.istore 5, 2) := by decide +kernel
theorem dX2_init_12 : decode cX2_init 12 = .ok (.aload_n 0, 1) := by decide +kernel
theorem dX2_init_13 : decode cX2_init 13 = .ok (.iload_n 1, 1) := by decide +kernel
theorem dX2_init_14 : decode cX2_init 14 = .ok (.putfield 13, 3) := by decide +kernel
theorem dX2_init_17 : decode cX2_init 17 = .ok (.aload_n 0, 1) := by decide +kernel
theorem dX2_init_18 : decode cX2_init 18 = .ok (.aload_n 2, 1) := by decide +kernel
theorem dX2_init_19 : decode cX2_init 19 = .ok (.putfield 19, 3) := by decide +kernel
theorem dX2_init_22 : decode cX2_init 22 = .ok (.aload_n 0, 1) := by decide +kernel
theorem dX2_init_23 : decode cX2_init 23 = .ok (.iload_n 3, 1) := by decide +kernel
theorem dX2_init_24 : decode cX2_init 24 = .ok (.putfield 23, 3) := by decide +kernel
theorem dX2_init_27 : decode cX2_init 27 = .ok (.aload_n 0, 1) := by decide +kernel
theorem dX2_init_28 : decode cX2_init 28 = .ok (.iload_n 3, 1) := by decide +kernel
theorem dX2_init_29 : decode cX2_init 29 = .ok (.iload 5, 2) := by decide +kernel
theorem dX2_init_31 : decode cX2_init 31 = .ok (.iadd, 1) := by decide +kernel
theorem dX2_init_32 : decode cX2_init 32 = .ok (.putfield 26, 3) := by decide +kernel
theorem dX2_init_35 : decode cX2_init 35 = .ok (.aload_n 0, 1) := by decide +kernel
theorem dX2_init_36 : decode cX2_init 36 = .ok (.iload 5, 2) := by decide +kernel
theorem dX2_init_38 : decode cX2_init 38 = .ok (.newarray .int, 2) := by decide +kernel
theorem dX2_init_40 : decode cX2_init 40 = .ok (.putfield 29, 3) := by decide +kernel
theorem dX2_init_43 : decode cX2_init 43 = .ok (.aload_n 0, 1) := by decide +kernel
theorem dX2_init_44 : decode cX2_init 44 = .ok (.iload 5, 2) := by decide +kernel
theorem dX2_init_46 : decode cX2_init 46 = .ok (.newarray .int, 2) := by decide +kernel
theorem dX2_init_48 : decode cX2_init 48 = .ok (.putfield 33, 3) := by decide +kernel
theorem dX2_init_51 : decode cX2_init 51 = .ok (.aload_n 0, 1) := by decide +kernel
theorem dX2_init_52 : decode cX2_init 52 = .ok (.aload_n 2, 1) := by decide +kernel
theorem dX2_init_53 : decode cX2_init 53 = .ok (.ifnull 14, 3) := by decide +kernel
theorem dX2_init_56 : decode cX2_init 56 = .ok (.aload_n 2, 1) := by decide +kernel
theorem dX2_init_57 : decode cX2_init 57 = .ok (.getfield 36, 3) := by decide +kernel
theorem dX2_init_60 : decode cX2_init 60 = .ok (.ifCond .le 7, 3) := by decide +kernel
theorem dX2_init_63 : decode cX2_init 63 = .ok (.iconst 1, 1) := by decide +kernel
theorem dX2_init_64 : decode cX2_init 64 = .ok (.goto 4, 3) := by decide +kernel
theorem dX2_init_67 : decode cX2_init 67 = .ok (.iconst 0, 1) := by decide +kernel
theorem dX2_init_68 : decode cX2_init 68 = .ok (.putfield 39, 3) := by decide +kernel
theorem dX2_init_71 : decode cX2_init 71 = .ok (.aload_n 0, 1) := by decide +kernel
theorem dX2_init_72 : decode cX2_init 72 = .ok (.aload_n 2, 1) := by decide +kernel
theorem dX2_init_73 : decode cX2_init 73 = .ok (.ifnonnull 7, 3) := by decide +kernel
theorem dX2_init_76 : decode cX2_init 76 = .ok (.iconst 1, 1) := by decide +kernel
theorem dX2_init_77 : decode cX2_init 77 = .ok (.goto 9, 3) := by decide +kernel
theorem dX2_init_80 : decode cX2_init 80 = .ok (.aload_n 2, 1) := by decide +kernel
theorem dX2_init_81 : decode cX2_init 81 = .ok (.getfield 43, 3) := by decide +kernel
theorem dX2_init_84 : decode cX2_init 84 = .ok (.iconst 1, 1) := by decide +kernel
theorem dX2_init_85 : decode cX2_init 85 = .ok (.iadd, 1) := by decide +kernel
theorem dX2_init_86 : decode cX2_init 86 = .ok (.putfield 43, 3) := by decide +kernel
theorem dX2_init_89 : decode cX2_init 89 = .ok (.return_, 1) := by decide +kernel
theorem dX2_writeOwn_0 : decode cX2_writeOwn 0 = .ok (.iload_n 1, 1) := by decide +kernel
theorem dX2_writeOwn_1 : decode cX2_writeOwn 1 = .ok (.ifCond .lt 35, 3) := by decide +kernel
theorem dX2_writeOwn_4 : decode cX2_writeOwn 4 = .ok (.iload_n 1, 1) := by decide +kernel
theorem dX2_writeOwn_5 : decode cX2_writeOwn 5 = .ok (.aload_n 0, 1) := by decide +kernel
theorem dX2_writeOwn_6 : decode cX2_writeOwn 6 = .ok (.getfield 29, 3) := by decide +kernel
theorem dX2_writeOwn_9 : decode cX2_writeOwn 9 = .ok (.arraylength, 1) := by decide +kernel
theorem dX2_writeOwn_10 : decode cX2_writeOwn 10 = .ok (.if_icmp .ge 26, 3) := by decide +kernel
theorem dX2_writeOwn_13 : decode cX2_writeOwn 13 = .ok (.iload_n 1, 1) := by decide +kernel
theorem dX2_writeOwn_14 : decode cX2_writeOwn 14 = .ok (.aload_n 0, 1) := by decide +kernel
theorem dX2_writeOwn_15 : decode cX2_writeOwn 15 = .ok (.getfield 33, 3) := by decide +kernel
theorem dX2_writeOwn_18 : decode cX2_writeOwn 18 = .ok (.arraylength, 1) := by decide +kernel
theorem dX2_writeOwn_19 : decode cX2_writeOwn 19 = .ok (.if_icmp .ge 17, 3) := by decide +kernel
theorem dX2_writeOwn_22 : decode cX2_writeOwn 22 = .ok (.aload_n 0, 1) := by decide +kernel
theorem dX2_writeOwn_23 : decode cX2_writeOwn 23 = .ok (.getfield 29, 3) := by decide +kernel
theorem dX2_writeOwn_26 : decode cX2_writeOwn 26 = .ok (.iload_n 1, 1) := by decide +kernel
theorem dX2_writeOwn_27 : decode cX2_writeOwn 27 = .ok (.iload_n 2, 1) := by decide +kernel
theorem dX2_writeOwn_28 : decode cX2_writeOwn 28 = .ok (.iastore, 1) := by decide +kernel
theorem dX2_writeOwn_29 : decode cX2_writeOwn 29 = .ok (.aload_n 0, 1) := by decide +kernel
theorem dX2_writeOwn_30 : decode cX2_writeOwn 30 = .ok (.getfield 33, 3) := by decide +kernel
theorem dX2_writeOwn_33 : decode cX2_writeOwn 33 = .ok (.iload_n 1, 1) := by decide +kernel
theorem dX2_writeOwn_34 : decode cX2_writeOwn 34 = .ok (.iload_n 3, 1) := by decide +kernel
theorem dX2_writeOwn_35 : decode cX2_writeOwn 35 = .ok (.iastore, 1) := by decide +kernel
theorem dX2_writeOwn_36 : decode cX2_writeOwn 36 = .ok (.return_, 1) := by decide +kernel
theorem dJ9_max_7cf53_0 : decode cJ9_max_7cf53 0 = .ok (.iload_n 0, 1) := by decide +kernel
theorem dJ9_max_7cf53_1 : decode cJ9_max_7cf53 1 = .ok (.iload_n 1, 1) := by decide +kernel
theorem dJ9_max_7cf53_2 : decode cJ9_max_7cf53 2 = .ok (.if_icmp .lt 7, 3) := by decide +kernel
theorem dJ9_max_7cf53_5 : decode cJ9_max_7cf53 5 = .ok (.iload_n 0, 1) := by decide +kernel
theorem dJ9_max_7cf53_6 : decode cJ9_max_7cf53 6 = .ok (.goto 4, 3) := by decide +kernel
theorem dJ9_max_7cf53_9 : decode cJ9_max_7cf53 9 = .ok (.iload_n 1, 1) := by decide +kernel
theorem dJ9_max_7cf53_10 : decode cJ9_max_7cf53 10 = .ok (.ireturn, 1) := by decide +kernel
theorem dJ9_min_7cf53_0 : decode cJ9_min_7cf53 0 = .ok (.iload_n 0, 1) := by decide +kernel
theorem dJ9_min_7cf53_1 : decode cJ9_min_7cf53 1 = .ok (.iload_n 1, 1) := by decide +kernel
theorem dJ9_min_7cf53_2 : decode cJ9_min_7cf53 2 = .ok (.if_icmp .gt 7, 3) := by decide +kernel
theorem dJ9_min_7cf53_5 : decode cJ9_min_7cf53 5 = .ok (.iload_n 0, 1) := by decide +kernel
theorem dJ9_min_7cf53_6 : decode cJ9_min_7cf53 6 = .ok (.goto 4, 3) := by decide +kernel
theorem dJ9_min_7cf53_9 : decode cJ9_min_7cf53 9 = .ok (.iload_n 1, 1) := by decide +kernel
theorem dJ9_min_7cf53_10 : decode cJ9_min_7cf53 10 = .ok (.ireturn, 1) := by decide +kernel
theorem dJ7_fill_53178_0 : decode cJ7_fill_53178 0 = .ok (.iconst 0, 1) := by decide +kernel
theorem dJ7_fill_53178_1 : decode cJ7_fill_53178 1 = .ok (.istore_n 2, 1) := by decide +kernel
theorem dJ7_fill_53178_2 : decode cJ7_fill_53178 2 = .ok (.aload_n 0, 1) := by decide +kernel
theorem dJ7_fill_53178_3 : decode cJ7_fill_53178 3 = .ok (.arraylength, 1) := by decide +kernel
theorem dJ7_fill_53178_4 : decode cJ7_fill_53178 4 = .ok (.istore_n 3, 1) := by decide +kernel
theorem dJ7_fill_53178_5 : decode cJ7_fill_53178 5 = .ok (.iload_n 2, 1) := by decide +kernel
theorem dJ7_fill_53178_6 : decode cJ7_fill_53178 6 = .ok (.iload_n 3, 1) := by decide +kernel
theorem dJ7_fill_53178_7 : decode cJ7_fill_53178 7 = .ok (.if_icmp .ge 13, 3) := by decide +kernel
theorem dJ7_fill_53178_10 : decode cJ7_fill_53178 10 = .ok (.aload_n 0, 1) := by decide +kernel
theorem dJ7_fill_53178_11 : decode cJ7_fill_53178 11 = .ok (.iload_n 2, 1) := by decide +kernel
theorem dJ7_fill_53178_12 : decode cJ7_fill_53178 12 = .ok (.iload_n 1, 1) := by decide +kernel
theorem dJ7_fill_53178_13 : decode cJ7_fill_53178 13 = .ok (.iastore, 1) := by decide +kernel
theorem dJ7_fill_53178_14 : decode cJ7_fill_53178 14 = .ok (.iinc 2 1, 3) := by decide +kernel
theorem dJ7_fill_53178_17 : decode cJ7_fill_53178 17 = .ok (.goto (-12), 3) := by decide +kernel
theorem dJ7_fill_53178_20 : decode cJ7_fill_53178 20 = .ok (.return_, 1) := by decide +kernel
