theorem dX0_init_0 : decode cX0_init 0 = .ok (.aload_n 0, 1) := by decide +kernel
theorem dX0_init_1 : decode cX0_init 1 = .ok (.invokespecial 3, 3) := by decide +kernel
theorem dX0_init_4 : decode cX0_init 4 = .ok (.aload_n 0, 1) := by decide +kernel
theorem dX0_init_5 : decode cX0_init 5 = .ok (.bipush 90, 2) := by decide +kernel
theorem dX0_init_7 : decode cX0_init 7 = .ok (.newarray .long, 2) := by decide +kernel
theorem dX0_init_9 : decode cX0_init 9 = .ok (.putfield 9, 3) := by decide +kernel
theorem dX0_init_12 : decode cX0_init 12 = .ok (.aload_n 0, 1) := by decide +kernel
theorem dX0_init_13 : decode cX0_init 13 = .ok (.bipush 10, 2) := by decide +kernel
theorem dX0_init_15 : decode cX0_init 15 = .ok (.newarray .int, 2) := by decide +kernel
theorem dX0_init_17 : decode cX0_init 17 = .ok (.putfield 15, 3) := by decide +kernel
theorem dX0_init_20 : decode cX0_init 20 = .ok (.aload_n 0, 1) := by decide +kernel
theorem dX0_init_21 : decode cX0_init 21 = .ok (.bipush 9, 2) := by decide +kernel
theorem dX0_init_23 : decode cX0_init 23 = .ok (.newarray .int, 2) := by decide +kernel
theorem dX0_init_25 : decode cX0_init 25 = .ok (.putfield 19, 3) := by decide +kernel
theorem dX0_init_28 : decode cX0_init 28 = .ok (.aload_n 0, 1) := by decide +kernel
theorem dX0_init_29 : decode cX0_init 29 = .ok (.bipush 10, 2) := by decide +kernel
theorem dX0_init_31 : decode cX0_init 31 = .ok (.newarray .long, 2) := by decide +kernel
theorem dX0_init_33 : decode cX0_init 33 = .ok (.putfield 22, 3) := by decide +kernel
theorem dX0_init_36 : decode cX0_init 36 = .ok (.aload_n 0, 1) := by decide +kernel
theorem dX0_init_37 : decode cX0_init 37 = .ok (.bipush 9, 2) := by decide +kernel
theorem dX0_init_39 : decode cX0_init 39 = .ok (.newarray .long, 2) := by decide +kernel
theorem dX0_init_41 : decode cX0_init 41 = .ok (.putfield 25, 3) := by decide +kernel
theorem dX0_init_44 : decode cX0_init 44 = .ok (.aload_n 0, 1) := by decide +kernel
theorem dX0_init_45 : decode cX0_init 45 = .ok (.bipush 9, 2) := by decide +kernel
theorem dX0_init_47 : decode cX0_init 47 = .ok (.newarray .int, 2) := by decide +kernel
theorem dX0_init_49 : decode cX0_init 49 = .ok (.putfield 28, 3) := by decide +kernel
theorem dX0_init_52 : decode cX0_init 52 = .ok (.return_, 1) := by decide +kernel
theorem dX0_find_0 : decode cX0_find 0 = .ok (.aload_n 0, 1) := by decide +kernel
theorem dX0_find_1 : decode cX0_find 1 = .ok (.aload_n 1, 1) := by decide +kernel
theorem dX0_find_2 : decode cX0_find 2 = .ok (.getfield 31, 3) := by decide +kernel
theorem dX0_find_5 : decode cX0_find 5 = .ok (.putfield 37, 3) := by decide +kernel
theorem dX0_find_8 : decode cX0_find 8 = .ok (.aload_n 0, 1) := by decide +kernel
theorem dX0_find_9 : decode cX0_find 9 = .ok (.aload_n 1, 1) := by decide +kernel
theorem dX0_find_10 : decode cX0_find 10 = .ok (.getfield 38, 3) := by decide +kernel
theorem dX0_find_13 : decode cX0_find 13 = .ok (.putfield 41, 3) := by decide +kernel
theorem dX0_find_16 : decode cX0_find 16 = .ok (.aload_n 0, 1) := by decide +kernel
theorem dX0_find_17 : decode cX0_find 17 = .ok (.getfield 15, 3) := by decide +kernel
theorem dX0_find_20 : decode cX0_find 20 = .ok (.iconst (-1), 1) := by decide +kernel
theorem dX0_find_21 : decode cX0_find 21 = .ok (.invokestatic 42, 3) := by decide +kernel
theorem dX0_find_24 : decode cX0_find 24 = .ok (.iconst 0, 1) := by decide +kernel
theorem dX0_find_25 : decode cX0_find 25 = .ok (.istore_n 3, 1) := by decide +kernel
theorem dX0_find_26 : decode cX0_find 26 = .ok (.iload_n 3, 1) := by decide +kernel
theorem dX0_find_27 : decode cX0_find 27 = .ok (.aload_n 0, 1) := by decide +kernel
theorem dX0_find_28 : decode cX0_find 28 = .ok (.getfield 37, 3) := by decide +kernel
theorem dX0_find_31 : decode cX0_find 31 = .ok (.if_icmp .ge 23, 3) := by decide +kernel
theorem dX0_find_34 : decode cX0_find 34 = .ok (.aload_n 0, 1) := by decide +kernel
theorem dX0_find_35 : decode cX0_find 35 = .ok (.getfield 19, 3) := by decide +kernel
theorem dX0_find_38 : decode cX0_find 38 = .ok (.iload_n 3, 1) := by decide +kernel
theorem dX0_find_39 : decode cX0_find 39 = .ok (.aload_n 1, 1) := by decide +kernel
theorem dX0_find_40 : decode cX0_find 40 = .ok (.iload_n 3, 1) := by decide +kernel
theorem dX0_find_41 : decode cX0_find 41 = .ok (.iconst 2, 1) := by decide +kernel
theorem dX0_find_42 : decode cX0_find 42 = .ok (.invokevirtual 48, 3) := by decide +kernel
theorem dX0_find_45 : decode cX0_find 45 = .ok (.invokestatic 52, 3) := by decide +kernel
theorem dX0_find_48 : decode cX0_find 48 = .ok (.iinc 3 1, 3) := by decide +kernel
theorem dX0_find_51 : decode cX0_find 51 = .ok (.goto (-25), 3) := by decide +kernel
theorem dX0_find_54 : decode cX0_find 54 = .ok (.aload_n 0, 1) := by decide +kernel
theorem dX0_find_55 : decode cX0_find 55 = .ok (.aload_n 2, 1) := by decide +kernel
theorem dX0_find_56 : decode cX0_find 56 = .ok (.invokevirtual 56, 3) := by decide +kernel
theorem dX0_find_59 : decode cX0_find 59 = .ok (.iconst 0, 1) := by decide +kernel
theorem dX0_find_60 : decode cX0_find 60 = .ok (.istore_n 3, 1) := by decide +kernel
theorem dX0_find_61 : decode cX0_find 61 = .ok (.iload_n 3, 1) := by decide +kernel
theorem dX0_find_62 : decode cX0_find 62 = .ok (.aload_n 0, 1) := by decide +kernel
theorem dX0_find_63 : decode cX0_find 63 = .ok (.getfield 41, 3) := by decide +kernel
theorem dX0_find_66 : decode cX0_find 66 = .ok (.if_icmp .ge 28, 3) := by decide +kernel
theorem dX0_find_69 : decode cX0_find 69 = .ok (.aload_n 0, 1) := by decide +kernel
theorem dX0_find_70 : decode cX0_find 70 = .ok (.invokevirtual 60, 3) := by decide +kernel
theorem dX0_find_73 : decode cX0_find 73 = .ok (.istore 4, 2) := by decide +kernel
theorem dX0_find_75 : decode cX0_find 75 = .ok (.iload 4, 2) := by decide +kernel
theorem dX0_find_77 : decode cX0_find 77 = .ok (.iconst (-1), 1) := by decide +kernel
theorem dX0_find_78 : decode cX0_find 78 = .ok (.if_icmp .ne 4, 3) := by decide +kernel
theorem dX0_find_81 : decode cX0_find 81 = .ok (.return_, 1) := by decide +kernel
theorem dX0_find_82 : decode cX0_find 82 = .ok (.aload_n 0, 1) := by decide +kernel
theorem dX0_find_83 : decode cX0_find 83 = .ok (.iload 4, 2) := by decide +kernel
theorem dX0_find_85 : decode cX0_find 85 = .ok (.invokevirtual 64, 3) := by decide +kernel
theorem dX0_find_88 : decode cX0_find 88 = .ok (.iinc 3 1, 3) := by decide +kernel
theorem dX0_find_91 : decode cX0_find 91 = .ok (.goto (-30), 3) := by decide +kernel
theorem dX0_find_94 : decode cX0_find 94 = .ok (.return_, 1) := by decide +kernel
theorem dX0_setWorths_0 : decode cX0_setWorths 0 = .ok (.ldc2_w 68, 3) := by decide +kernel
theorem dX0_setWorths_3 : decode cX0_setWorths 3 = .ok (.lstore_n 2, 1) := by decide +kernel
theorem dX0_setWorths_4 : decode cX0_setWorths 4 = .ok (.iconst 0, 1) := by decide +kernel
theorem dX0_setWorths_5 : decode cX0_setWorths 5 = .ok (.istore 4, 2) := by decide +kernel
theorem dX0_setWorths_7 : decode cX0_setWorths 7 = .ok (.iload 4, 2) := by decide +kernel
theorem dX0_setWorths_9 : decode cX0_setWorths 9 = .ok (.aload_n 0, 1) := by decide +kernel
theorem dX0_setWorths_10 : decode cX0_setWorths 10 = .ok (.getfield 41, 3) := by decide +kernel
theorem dX0_setWorths_13 : decode cX0_setWorths 13 = .ok (.if_icmp .ge 92, 3) := by decide +kernel
theorem dX0_setWorths_16 : decode cX0_setWorths 16 = .ok (.iconst 0, 1) := by decide +kernel
theorem dX0_setWorths_17 : decode cX0_setWorths 17 = .ok (.istore 5, 2) := by decide +kernel
theorem dX0_setWorths_19 : decode cX0_setWorths 19 = .ok (.iload 5, 2) := by decide +kernel
theorem dX0_setWorths_21 : decode cX0_setWorths 21 = .ok (.aload_n 0, 1) := by decide +kernel
theorem dX0_setWorths_22 : decode cX0_setWorths 22 = .ok (.getfield 37, 3) := by decide +kernel
theorem dX0_setWorths_25 : decode cX0_setWorths 25 = .ok (.if_icmp .ge 68, 3) := by decide +kernel
theorem dX0_setWorths_28 : decode cX0_setWorths 28 = .ok (.aload_n 1, 1) := by decide +kernel
theorem dX0_setWorths_29 : decode cX0_setWorths 29 = .ok (.iload 5, 2) := by decide +kernel
theorem dX0_setWorths_31 : decode cX0_setWorths 31 = .ok (.iload 4, 2) := by decide +kernel
theorem dX0_setWorths_33 : decode cX0_setWorths 33 = .ok (.invokevirtual 70, 3) := by decide +kernel
theorem dX0_setWorths_36 : decode cX0_setWorths 36 = .ok (.i2l, 1) := by decide +kernel
theorem dX0_setWorths_37 : decode cX0_setWorths 37 = .ok (.ldc2_w 75, 3) := by decide +kernel
theorem dX0_setWorths_40 : decode cX0_setWorths 40 = .ok (.lmul, 1) := by decide +kernel
theorem dX0_setWorths_41 : decode cX0_setWorths 41 = .ok (.iload 5, 2) := by decide +kernel
theorem dX0_setWorths_43 : decode cX0_setWorths 43 = .ok (.iconst 1, 1) := by decide +kernel
theorem dX0_setWorths_44 : decode cX0_setWorths 44 = .ok (.iadd, 1) := by decide +kernel
theorem dX0_setWorths_45 : decode cX0_setWorths 45 = .ok (.i2l, 1) := by decide +kernel
theorem dX0_setWorths_46 : decode cX0_setWorths 46 = .ok (.lload_n 2, 1) := by decide +kernel
theorem dX0_setWorths_47 : decode cX0_setWorths 47 = .ok (.lmul, 1) := by decide +kernel
theorem dX0_setWorths_48 : decode cX0_setWorths 48 = .ok (.lsub, 1) := by decide +kernel
theorem dX0_setWorths_49 : decode cX0_setWorths 49 = .ok (.lstore 6, 2) := by decide +kernel
theorem dX0_setWorths_51 : decode cX0_setWorths 51 = .ok (.aload_n 1, 1) := by decide +kernel
theorem dX0_setWorths_52 : decode cX0_setWorths 52 = .ok (.iload 5, 2) := by decide +kernel
theorem dX0_setWorths_54 : decode cX0_setWorths 54 = .ok (.iload 4, 2) := by decide +kernel
theorem dX0_setWorths_56 : decode cX0_setWorths 56 = .ok (.invokevirtual 77, 3) := by decide +kernel
theorem dX0_setWorths_59 : decode cX0_setWorths 59 = .ok (.istore 8, 2) := by decide +kernel
theorem dX0_setWorths_61 : decode cX0_setWorths 61 = .ok (.aload_n 0, 1) := by decide +kernel
theorem dX0_setWorths_62 : decode cX0_setWorths 62 = .ok (.getfield 9, 3) := by decide +kernel
theorem dX0_setWorths_65 : decode cX0_setWorths 65 = .ok (.iload 5, 2) := by decide +kernel
theorem dX0_setWorths_67 : decode cX0_setWorths 67 = .ok (.bipush 10, 2) := by decide +kernel
theorem dX0_setWorths_69 : decode cX0_setWorths 69 = .ok (.imul, 1) := by decide +kernel
theorem dX0_setWorths_70 : decode cX0_setWorths 70 = .ok (.iload 4, 2) := by decide +kernel
theorem dX0_setWorths_72 : decode cX0_setWorths 72 = .ok (.iadd, 1) := by decide +kernel
theorem dX0_setWorths_73 : decode cX0_setWorths 73 = .ok (.iload 8, 2) := by decide +kernel
theorem dX0_setWorths_75 : decode cX0_setWorths 75 = .ok (.ifCond .eq 8, 3) := by decide +kernel
theorem dX0_setWorths_78 : decode cX0_setWorths 78 = .ok (.lload 6, 2) := by decide +kernel
theorem dX0_setWorths_80 : decode cX0_setWorths 80 = .ok (.goto 4, 3) := by decide +kernel
theorem dX0_setWorths_83 : decode cX0_setWorths 83 = .ok (.lconst 0, 1) := by decide +kernel
theorem dX0_setWorths_84 : decode cX0_setWorths 84 = .ok (.invokestatic 81, 3) := by decide +kernel
theorem dX0_setWorths_87 : decode cX0_setWorths 87 = .ok (.iinc 5 1, 3) := by decide +kernel
theorem dX0_setWorths_90 : decode cX0_setWorths 90 = .ok (.goto (-71), 3) := by decide +kernel
theorem dX0_setWorths_93 : decode cX0_setWorths 93 = .ok (.lload_n 2, 1) := by decide +kernel
theorem dX0_setWorths_94 : decode cX0_setWorths 94 = .ok (.ldc2_w 84, 3) := by decide +kernel
theorem dX0_setWorths_97 : decode cX0_setWorths 97 = .ok (.ldiv, 1) := by decide +kernel
theorem dX0_setWorths_98 : decode cX0_setWorths 98 = .ok (.lstore_n 2, 1) := by decide +kernel
theorem dX0_setWorths_99 : decode cX0_setWorths 99 = .ok (.iinc 4 1, 3) := by decide +kernel
theorem dX0_setWorths_102 : decode cX0_setWorths 102 = .ok (.goto (-95), 3) := by decide +kernel
theorem dX0_setWorths_105 : decode cX0_setWorths 105 = .ok (.return_, 1) := by decide +kernel
theorem dX0_worth_0 : decode cX0_worth 0 = .ok (.aload_n 0, 1) := by decide +kernel
theorem dX0_worth_1 : decode cX0_worth 1 = .ok (.getfield 9, 3) := by decide +kernel
theorem dX0_worth_4 : decode cX0_worth 4 = .ok (.iload_n 1, 1) := by decide +kernel
theorem dX0_worth_5 : decode cX0_worth 5 = .ok (.bipush 10, 2) := by decide +kernel
theorem dX0_worth_7 : decode cX0_worth 7 = .ok (.imul, 1) := by decide +kernel
theorem dX0_worth_8 : decode cX0_worth 8 = .ok (.iload_n 2, 1) := by decide +kernel
theorem dX0_worth_9 : decode cX0_worth 9 = .ok (.iadd, 1) := by decide +kernel
theorem dX0_worth_10 : decode cX0_worth 10 = .ok (.invokestatic 86, 3) := by decide +kernel
theorem dX0_worth_13 : decode cX0_worth 13 = .ok (.lreturn, 1) := by decide +kernel
theorem dX0_bestEnd_0 : decode cX0_bestEnd 0 = .ok (.aload_n 0, 1) := by decide +kernel
theorem dX0_bestEnd_1 : decode cX0_bestEnd 1 = .ok (.getfield 25, 3) := by decide +kernel
theorem dX0_bestEnd_4 : decode cX0_bestEnd 4 = .ok (.ldc2_w 90, 3) := by decide +kernel
theorem dX0_bestEnd_7 : decode cX0_bestEnd 7 = .ok (.invokestatic 92, 3) := by decide +kernel
theorem dX0_bestEnd_10 : decode cX0_bestEnd 10 = .ok (.iconst 0, 1) := by decide +kernel
theorem dX0_bestEnd_11 : decode cX0_bestEnd 11 = .ok (.istore_n 1, 1) := by decide +kernel
theorem dX0_bestEnd_12 : decode cX0_bestEnd 12 = .ok (.iload_n 1, 1) := by decide +kernel
theorem dX0_bestEnd_13 : decode cX0_bestEnd 13 = .ok (.aload_n 0, 1) := by decide +kernel
theorem dX0_bestEnd_14 : decode cX0_bestEnd 14 = .ok (.getfield 41, 3) := by decide +kernel
theorem dX0_bestEnd_17 : decode cX0_bestEnd 17 = .ok (.if_icmp .ge 36, 3) := by decide +kernel
theorem dX0_bestEnd_20 : decode cX0_bestEnd 20 = .ok (.aload_n 0, 1) := by decide +kernel
theorem dX0_bestEnd_21 : decode cX0_bestEnd 21 = .ok (.getfield 22, 3) := by decide +kernel
theorem dX0_bestEnd_24 : decode cX0_bestEnd 24 = .ok (.iload_n 1, 1) := by decide +kernel
theorem dX0_bestEnd_25 : decode cX0_bestEnd 25 = .ok (.aload_n 0, 1) := by decide +kernel
theorem dX0_bestEnd_26 : decode cX0_bestEnd 26 = .ok (.getfield 15, 3) := by decide +kernel
theorem dX0_bestEnd_29 : decode cX0_bestEnd 29 = .ok (.iload_n 1, 1) := by decide +kernel
theorem dX0_bestEnd_30 : decode cX0_bestEnd 30 = .ok (.invokestatic 95, 3) := by decide +kernel
theorem dX0_bestEnd_33 : decode cX0_bestEnd 33 = .ok (.iconst (-1), 1) := by decide +kernel
theorem dX0_bestEnd_34 : decode cX0_bestEnd 34 = .ok (.if_icmp .ne 7, 3) := by decide +kernel
theorem dX0_bestEnd_37 : decode cX0_bestEnd 37 = .ok (.lconst 0, 1) := by decide +kernel
theorem dX0_bestEnd_38 : decode cX0_bestEnd 38 = .ok (.goto 6, 3) := by decide +kernel
theorem dX0_bestEnd_41 : decode cX0_bestEnd 41 = .ok (.ldc2_w 90, 3) := by decide +kernel
theorem dX0_bestEnd_44 : decode cX0_bestEnd 44 = .ok (.invokestatic 81, 3) := by decide +kernel
theorem dX0_bestEnd_47 : decode cX0_bestEnd 47 = .ok (.iinc 1 1, 3) := by decide +kernel
theorem dX0_bestEnd_50 : decode cX0_bestEnd 50 = .ok (.goto (-38), 3) := by decide +kernel
theorem dX0_bestEnd_53 : decode cX0_bestEnd 53 = .ok (.iconst 1, 1) := by decide +kernel
theorem dX0_bestEnd_54 : decode cX0_bestEnd 54 = .ok (.istore_n 1, 1) := by decide +kernel
theorem dX0_bestEnd_55 : decode cX0_bestEnd 55 = .ok (.iconst 0, 1) := by decide +kernel
theorem dX0_bestEnd_56 : decode cX0_bestEnd 56 = .ok (.istore_n 2, 1) := by decide +kernel
theorem dX0_bestEnd_57 : decode cX0_bestEnd 57 = .ok (.iload_n 2, 1) := by decide +kernel
theorem dX0_bestEnd_58 : decode cX0_bestEnd 58 = .ok (.aload_n 0, 1) := by decide +kernel
theorem dX0_bestEnd_59 : decode cX0_bestEnd 59 = .ok (.getfield 41, 3) := by decide +kernel
theorem dX0_bestEnd_62 : decode cX0_bestEnd 62 = .ok (.if_icmp .gt 35, 3) := by decide +kernel
theorem dX0_bestEnd_65 : decode cX0_bestEnd 65 = .ok (.iload_n 1, 1) := by decide +kernel
theorem dX0_bestEnd_66 : decode cX0_bestEnd 66 = .ok (.ifCond .eq 31, 3) := by decide +kernel
theorem dX0_bestEnd_69 : decode cX0_bestEnd 69 = .ok (.aload_n 0, 1) := by decide +kernel
theorem dX0_bestEnd_70 : decode cX0_bestEnd 70 = .ok (.invokevirtual 98, 3) := by decide +kernel
theorem dX0_bestEnd_73 : decode cX0_bestEnd 73 = .ok (.istore_n 3, 1) := by decide +kernel
theorem dX0_bestEnd_74 : decode cX0_bestEnd 74 = .ok (.aload_n 0, 1) := by decide +kernel
theorem dX0_bestEnd_75 : decode cX0_bestEnd 75 = .ok (.invokevirtual 102, 3) := by decide +kernel
theorem dX0_bestEnd_78 : decode cX0_bestEnd 78 = .ok (.ifCond .ne 7, 3) := by decide +kernel
theorem dX0_bestEnd_81 : decode cX0_bestEnd 81 = .ok (.iload_n 3, 1) := by decide +kernel
theorem dX0_bestEnd_82 : decode cX0_bestEnd 82 = .ok (.ifCond .eq 7, 3) := by decide +kernel
theorem dX0_bestEnd_85 : decode cX0_bestEnd 85 = .ok (.iconst 1, 1) := by decide +kernel
theorem dX0_bestEnd_86 : decode cX0_bestEnd 86 = .ok (.goto 4, 3) := by decide +kernel
theorem dX0_bestEnd_89 : decode cX0_bestEnd 89 = .ok (.iconst 0, 1) := by decide +kernel
theorem dX0_bestEnd_90 : decode cX0_bestEnd 90 = .ok (.istore_n 1, 1) := by decide +kernel
theorem dX0_bestEnd_91 : decode cX0_bestEnd 91 = .ok (.iinc 2 1, 3) := by decide +kernel
theorem dX0_bestEnd_94 : decode cX0_bestEnd 94 = .ok (.goto (-37), 3) := by decide +kernel
theorem dX0_bestEnd_97 : decode cX0_bestEnd 97 = .ok (.iconst (-1), 1) := by decide +kernel
theorem dX0_bestEnd_98 : decode cX0_bestEnd 98 = .ok (.istore_n 2, 1) := by decide +kernel
theorem dX0_bestEnd_99 : decode cX0_bestEnd 99 = .ok (.iconst 0, 1) := by decide +kernel
theorem dX0_bestEnd_100 : decode cX0_bestEnd 100 = .ok (.istore_n 3, 1) := by decide +kernel
theorem dX0_bestEnd_101 : decode cX0_bestEnd 101 = .ok (.iload_n 3, 1) := by decide +kernel
theorem dX0_bestEnd_102 : decode cX0_bestEnd 102 = .ok (.aload_n 0, 1) := by decide +kernel
theorem dX0_bestEnd_103 : decode cX0_bestEnd 103 = .ok (.getfield 37, 3) := by decide +kernel
theorem dX0_bestEnd_106 : decode cX0_bestEnd 106 = .ok (.if_icmp .ge 58, 3) := by decide +kernel
theorem dX0_bestEnd_109 : decode cX0_bestEnd 109 = .ok (.aload_n 0, 1) := by decide +kernel
theorem dX0_bestEnd_110 : decode cX0_bestEnd 110 = .ok (.getfield 25, 3) := by decide +kernel
theorem dX0_bestEnd_113 : decode cX0_bestEnd 113 = .ok (.iload_n 3, 1) := by decide +kernel
theorem dX0_bestEnd_114 : decode cX0_bestEnd 114 = .ok (.invokestatic 86, 3) := by decide +kernel
theorem dX0_bestEnd_117 : decode cX0_bestEnd 117 = .ok (.lstore 4, 2) := by decide +kernel
theorem dX0_bestEnd_119 : decode cX0_bestEnd 119 = .ok (.aload_n 0, 1) := by decide +kernel
theorem dX0_bestEnd_120 : decode cX0_bestEnd 120 = .ok (.getfield 19, 3) := by decide +kernel
theorem dX0_bestEnd_123 : decode cX0_bestEnd 123 = .ok (.iload_n 3, 1) := by decide +kernel
theorem dX0_bestEnd_124 : decode cX0_bestEnd 124 = .ok (.invokestatic 95, 3) := by decide +kernel
theorem dX0_bestEnd_127 : decode cX0_bestEnd 127 = .ok (.ifCond .le 31, 3) := by decide +kernel
theorem dX0_bestEnd_130 : decode cX0_bestEnd 130 = .ok (.lload 4, 2) := by decide +kernel
theorem dX0_bestEnd_132 : decode cX0_bestEnd 132 = .ok (.lconst 0, 1) := by decide +kernel
theorem dX0_bestEnd_133 : decode cX0_bestEnd 133 = .ok (.lcmp, 1) := by decide +kernel
theorem dX0_bestEnd_134 : decode cX0_bestEnd 134 = .ok (.ifCond .le 24, 3) := by decide +kernel
theorem dX0_bestEnd_137 : decode cX0_bestEnd 137 = .ok (.iload_n 2, 1) := by decide +kernel
theorem dX0_bestEnd_138 : decode cX0_bestEnd 138 = .ok (.iconst (-1), 1) := by decide +kernel
theorem dX0_bestEnd_139 : decode cX0_bestEnd 139 = .ok (.if_icmp .eq 17, 3) := by decide +kernel
theorem dX0_bestEnd_142 : decode cX0_bestEnd 142 = .ok (.lload 4, 2) := by decide +kernel
theorem dX0_bestEnd_144 : decode cX0_bestEnd 144 = .ok (.aload_n 0, 1) := by decide +kernel
theorem dX0_bestEnd_145 : decode cX0_bestEnd 145 = .ok (.getfield 25, 3) := by decide +kernel
theorem dX0_bestEnd_148 : decode cX0_bestEnd 148 = .ok (.iload_n 2, 1) := by decide +kernel
theorem dX0_bestEnd_149 : decode cX0_bestEnd 149 = .ok (.invokestatic 86, 3) := by decide +kernel
theorem dX0_bestEnd_152 : decode cX0_bestEnd 152 = .ok (.lcmp, 1) := by decide +kernel
theorem dX0_bestEnd_153 : decode cX0_bestEnd 153 = .ok (.ifCond .le 5, 3) := by decide +kernel
theorem dX0_bestEnd_156 : decode cX0_bestEnd 156 = .ok (.iload_n 3, 1) := by decide +kernel
theorem dX0_bestEnd_157 : decode cX0_bestEnd 157 = .ok (.istore_n 2, 1) := by decide +kernel
theorem dX0_bestEnd_158 : decode cX0_bestEnd 158 = .ok (.iinc 3 1, 3) := by decide +kernel
theorem dX0_bestEnd_161 : decode cX0_bestEnd 161 = .ok (.goto (-60), 3) := by decide +kernel
theorem dX0_bestEnd_164 : decode cX0_bestEnd 164 = .ok (.iload_n 2, 1) := by decide +kernel
theorem dX0_bestEnd_165 : decode cX0_bestEnd 165 = .ok (.ireturn, 1) := by decide +kernel
theorem dX0_reachThings_0 : decode cX0_reachThings 0 = .ok (.iconst 0, 1) := by decide +kernel
theorem dX0_reachThings_1 : decode cX0_reachThings 1 = .ok (.istore_n 1, 1) := by decide +kernel
theorem dX0_reachThings_2 : decode cX0_reachThings 2 = .ok (.iconst 0, 1) := by decide +kernel
theorem dX0_reachThings_3 : decode cX0_reachThings 3 = .ok (.istore_n 2, 1) := by decide +kernel
theorem dX0_reachThings_4 : decode cX0_reachThings 4 = .ok (.iload_n 2, 1) := by decide +kernel
theorem dX0_reachThings_5 : decode cX0_reachThings 5 = .ok (.aload_n 0, 1) := by decide +kernel
theorem dX0_reachThings_6 : decode cX0_reachThings 6 = .ok (.getfield 41, 3) := by decide +kernel
theorem dX0_reachThings_9 : decode cX0_reachThings 9 = .ok (.if_icmp .ge 127, 3) := by decide +kernel
theorem dX0_reachThings_12 : decode cX0_reachThings 12 = .ok (.aload_n 0, 1) := by decide +kernel
theorem dX0_reachThings_13 : decode cX0_reachThings 13 = .ok (.getfield 22, 3) := by decide +kernel
theorem dX0_reachThings_16 : decode cX0_reachThings 16 = .ok (.iload_n 2, 1) := by decide +kernel
theorem dX0_reachThings_17 : decode cX0_reachThings 17 = .ok (.invokestatic 86, 3) := by decide +kernel
theorem dX0_reachThings_20 : decode cX0_reachThings 20 = .ok (.lstore_n 3, 1) := by decide +kernel
theorem dX0_reachThings_21 : decode cX0_reachThings 21 = .ok (.iconst 0, 1) := by decide +kernel
theorem dX0_reachThings_22 : decode cX0_reachThings 22 = .ok (.istore 5, 2) := by decide +kernel
theorem dX0_reachThings_24 : decode cX0_reachThings 24 = .ok (.iload 5, 2) := by decide +kernel
theorem dX0_reachThings_26 : decode cX0_reachThings 26 = .ok (.aload_n 0, 1) := by decide +kernel
theorem dX0_reachThings_27 : decode cX0_reachThings 27 = .ok (.getfield 37, 3) := by decide +kernel
theorem dX0_reachThings_30 : decode cX0_reachThings 30 = .ok (.if_icmp .ge 100, 3) := by decide +kernel
theorem dX0_reachThings_33 : decode cX0_reachThings 33 = .ok (.lload_n 3, 1) := by decide +kernel
theorem dX0_reachThings_34 : decode cX0_reachThings 34 = .ok (.ldc2_w 90, 3) := by decide +kernel
theorem dX0_reachThings_37 : decode cX0_reachThings 37 = .ok (.lcmp, 1) := by decide +kernel
theorem dX0_reachThings_38 : decode cX0_reachThings 38 = .ok (.ifCond .eq 92, 3) := by decide +kernel
theorem dX0_reachThings_41 : decode cX0_reachThings 41 = .ok (.aload_n 0, 1) := by decide +kernel
theorem dX0_reachThings_42 : decode cX0_reachThings 42 = .ok (.iload 5, 2) := by decide +kernel
theorem dX0_reachThings_44 : decode cX0_reachThings 44 = .ok (.iload_n 2, 1) := by decide +kernel
theorem dX0_reachThings_45 : decode cX0_reachThings 45 = .ok (.invokevirtual 105, 3) := by decide +kernel
theorem dX0_reachThings_48 : decode cX0_reachThings 48 = .ok (.lstore 6, 2) := by decide +kernel
theorem dX0_reachThings_50 : decode cX0_reachThings 50 = .ok (.lload 6, 2) := by decide +kernel
theorem dX0_reachThings_52 : decode cX0_reachThings 52 = .ok (.lconst 0, 1) := by decide +kernel
theorem dX0_reachThings_53 : decode cX0_reachThings 53 = .ok (.lcmp, 1) := by decide +kernel
theorem dX0_reachThings_54 : decode cX0_reachThings 54 = .ok (.ifCond .le 20, 3) := by decide +kernel
theorem dX0_reachThings_57 : decode cX0_reachThings 57 = .ok (.aload_n 0, 1) := by decide +kernel
theorem dX0_reachThings_58 : decode cX0_reachThings 58 = .ok (.getfield 15, 3) := by decide +kernel
theorem dX0_reachThings_61 : decode cX0_reachThings 61 = .ok (.iload_n 2, 1) := by decide +kernel
theorem dX0_reachThings_62 : decode cX0_reachThings 62 = .ok (.invokestatic 95, 3) := by decide +kernel
theorem dX0_reachThings_65 : decode cX0_reachThings 65 = .ok (.iload 5, 2) := by decide +kernel
theorem dX0_reachThings_67 : decode cX0_reachThings 67 = .ok (.if_icmp .eq 7, 3) := by decide +kernel
theorem dX0_reachThings_70 : decode cX0_reachThings 70 = .ok (.iconst 1, 1) := by decide +kernel
theorem dX0_reachThings_71 : decode cX0_reachThings 71 = .ok (.goto 4, 3) := by decide +kernel
theorem dX0_reachThings_74 : decode cX0_reachThings 74 = .ok (.iconst 0, 1) := by decide +kernel
theorem dX0_reachThings_75 : decode cX0_reachThings 75 = .ok (.istore 8, 2) := by decide +kernel
theorem dX0_reachThings_77 : decode cX0_reachThings 77 = .ok (.iload 8, 2) := by decide +kernel
theorem dX0_reachThings_79 : decode cX0_reachThings 79 = .ok (.ifCond .eq 45, 3) := by decide +kernel
theorem dX0_reachThings_82 : decode cX0_reachThings 82 = .ok (.lload_n 3, 1) := by decide +kernel
theorem dX0_reachThings_83 : decode cX0_reachThings 83 = .ok (.lload 6, 2) := by decide +kernel
theorem dX0_reachThings_85 : decode cX0_reachThings 85 = .ok (.ladd, 1) := by decide +kernel
theorem dX0_reachThings_86 : decode cX0_reachThings 86 = .ok (.aload_n 0, 1) := by decide +kernel
theorem dX0_reachThings_87 : decode cX0_reachThings 87 = .ok (.getfield 25, 3) := by decide +kernel
theorem dX0_reachThings_90 : decode cX0_reachThings 90 = .ok (.iload 5, 2) := by decide +kernel
theorem dX0_reachThings_92 : decode cX0_reachThings 92 = .ok (.invokestatic 86, 3) := by decide +kernel
theorem dX0_reachThings_95 : decode cX0_reachThings 95 = .ok (.lcmp, 1) := by decide +kernel
theorem dX0_reachThings_96 : decode cX0_reachThings 96 = .ok (.ifCond .le 28, 3) := by decide +kernel
theorem dX0_reachThings_99 : decode cX0_reachThings 99 = .ok (.aload_n 0, 1) := by decide +kernel
theorem dX0_reachThings_100 : decode cX0_reachThings 100 = .ok (.getfield 25, 3) := by decide +kernel
theorem dX0_reachThings_103 : decode cX0_reachThings 103 = .ok (.iload 5, 2) := by decide +kernel
theorem dX0_reachThings_105 : decode cX0_reachThings 105 = .ok (.lload_n 3, 1) := by decide +kernel
theorem dX0_reachThings_106 : decode cX0_reachThings 106 = .ok (.lload 6, 2) := by decide +kernel
theorem dX0_reachThings_108 : decode cX0_reachThings 108 = .ok (.ladd, 1) := by decide +kernel
theorem dX0_reachThings_109 : decode cX0_reachThings 109 = .ok (.invokestatic 81, 3) := by decide +kernel
theorem dX0_reachThings_112 : decode cX0_reachThings 112 = .ok (.aload_n 0, 1) := by decide +kernel
theorem dX0_reachThings_113 : decode cX0_reachThings 113 = .ok (.getfield 28, 3) := by decide +kernel
theorem dX0_reachThings_116 : decode cX0_reachThings 116 = .ok (.iload 5, 2) := by decide +kernel
theorem dX0_reachThings_118 : decode cX0_reachThings 118 = .ok (.iload_n 2, 1) := by decide +kernel
theorem dX0_reachThings_119 : decode cX0_reachThings 119 = .ok (.invokestatic 52, 3) := by decide +kernel
theorem dX0_reachThings_122 : decode cX0_reachThings 122 = .ok (.iconst 1, 1) := by decide +kernel
theorem dX0_reachThings_123 : decode cX0_reachThings 123 = .ok (.istore_n 1, 1) := by decide +kernel
theorem dX0_reachThings_124 : decode cX0_reachThings 124 = .ok (.iinc 5 1, 3) := by decide +kernel
theorem dX0_reachThings_127 : decode cX0_reachThings 127 = .ok (.goto (-103), 3) := by decide +kernel
theorem dX0_reachThings_130 : decode cX0_reachThings 130 = .ok (.iinc 2 1, 3) := by decide +kernel
theorem dX0_reachThings_133 : decode cX0_reachThings 133 = .ok (.goto (-129), 3) := by decide +kernel
theorem dX0_reachThings_136 : decode cX0_reachThings 136 = .ok (.iload_n 1, 1) := by decide +kernel
theorem dX0_reachThings_137 : decode cX0_reachThings 137 = .ok (.ireturn, 1) := by decide +kernel
theorem dX0_reachVisitors_0 : decode cX0_reachVisitors 0 = .ok (.iconst 0, 1) := by decide +kernel
theorem dX0_reachVisitors_1 : decode cX0_reachVisitors 1 = .ok (.istore_n 1, 1) := by decide +kernel
theorem dX0_reachVisitors_2 : decode cX0_reachVisitors 2 = .ok (.iconst 0, 1) := by decide +kernel
theorem dX0_reachVisitors_3 : decode cX0_reachVisitors 3 = .ok (.istore_n 2, 1) := by decide +kernel
theorem dX0_reachVisitors_4 : decode cX0_reachVisitors 4 = .ok (.iload_n 2, 1) := by decide +kernel
theorem dX0_reachVisitors_5 : decode cX0_reachVisitors 5 = .ok (.aload_n 0, 1) := by decide +kernel
theorem dX0_reachVisitors_6 : decode cX0_reachVisitors 6 = .ok (.getfield 41, 3) := by decide +kernel
theorem dX0_reachVisitors_9 : decode cX0_reachVisitors 9 = .ok (.if_icmp .ge 88, 3) := by decide +kernel
theorem dX0_reachVisitors_12 : decode cX0_reachVisitors 12 = .ok (.aload_n 0, 1) := by decide +kernel
theorem dX0_reachVisitors_13 : decode cX0_reachVisitors 13 = .ok (.getfield 15, 3) := by decide +kernel
theorem dX0_reachVisitors_16 : decode cX0_reachVisitors 16 = .ok (.iload_n 2, 1) := by decide +kernel
theorem dX0_reachVisitors_17 : decode cX0_reachVisitors 17 = .ok (.invokestatic 95, 3) := by decide +kernel
theorem dX0_reachVisitors_20 : decode cX0_reachVisitors 20 = .ok (.istore_n 3, 1) := by decide +kernel
theorem dX0_reachVisitors_21 : decode cX0_reachVisitors 21 = .ok (.iload_n 3, 1) := by decide +kernel
theorem dX0_reachVisitors_22 : decode cX0_reachVisitors 22 = .ok (.iconst (-1), 1) := by decide +kernel
theorem dX0_reachVisitors_23 : decode cX0_reachVisitors 23 = .ok (.if_icmp .ne 9, 3) := by decide +kernel
theorem dX0_reachVisitors_26 : decode cX0_reachVisitors 26 = .ok (.ldc2_w 90, 3) := by decide +kernel
theorem dX0_reachVisitors_29 : decode cX0_reachVisitors 29 = .ok (.goto 11, 3) := by decide +kernel
theorem dX0_reachVisitors_32 : decode cX0_reachVisitors 32 = .ok (.aload_n 0, 1) := by decide +kernel
theorem dX0_reachVisitors_33 : decode cX0_reachVisitors 33 = .ok (.getfield 25, 3) := by decide +kernel
theorem dX0_reachVisitors_36 : decode cX0_reachVisitors 36 = .ok (.iload_n 3, 1) := by decide +kernel
theorem dX0_reachVisitors_37 : decode cX0_reachVisitors 37 = .ok (.invokestatic 86, 3) := by decide +kernel
theorem dX0_reachVisitors_40 : decode cX0_reachVisitors 40 = .ok (.lstore 4, 2) := by decide +kernel
theorem dX0_reachVisitors_42 : decode cX0_reachVisitors 42 = .ok (.lload 4, 2) := by decide +kernel
theorem dX0_reachVisitors_44 : decode cX0_reachVisitors 44 = .ok (.ldc2_w 90, 3) := by decide +kernel
theorem dX0_reachVisitors_47 : decode cX0_reachVisitors 47 = .ok (.lcmp, 1) := by decide +kernel
theorem dX0_reachVisitors_48 : decode cX0_reachVisitors 48 = .ok (.ifCond .eq 43, 3) := by decide +kernel
theorem dX0_reachVisitors_51 : decode cX0_reachVisitors 51 = .ok (.lload 4, 2) := by decide +kernel
theorem dX0_reachVisitors_53 : decode cX0_reachVisitors 53 = .ok (.aload_n 0, 1) := by decide +kernel
theorem dX0_reachVisitors_54 : decode cX0_reachVisitors 54 = .ok (.iload_n 3, 1) := by decide +kernel
theorem dX0_reachVisitors_55 : decode cX0_reachVisitors 55 = .ok (.iload_n 2, 1) := by decide +kernel
theorem dX0_reachVisitors_56 : decode cX0_reachVisitors 56 = .ok (.invokevirtual 105, 3) := by decide +kernel
theorem dX0_reachVisitors_59 : decode cX0_reachVisitors 59 = .ok (.lsub, 1) := by decide +kernel
theorem dX0_reachVisitors_60 : decode cX0_reachVisitors 60 = .ok (.aload_n 0, 1) := by decide +kernel
theorem dX0_reachVisitors_61 : decode cX0_reachVisitors 61 = .ok (.getfield 22, 3) := by decide +kernel
theorem dX0_reachVisitors_64 : decode cX0_reachVisitors 64 = .ok (.iload_n 2, 1) := by decide +kernel
theorem dX0_reachVisitors_65 : decode cX0_reachVisitors 65 = .ok (.invokestatic 86, 3) := by decide +kernel
theorem dX0_reachVisitors_68 : decode cX0_reachVisitors 68 = .ok (.lcmp, 1) := by decide +kernel
theorem dX0_reachVisitors_69 : decode cX0_reachVisitors 69 = .ok (.ifCond .le 22, 3) := by decide +kernel
theorem dX0_reachVisitors_72 : decode cX0_reachVisitors 72 = .ok (.aload_n 0, 1) := by decide +kernel
theorem dX0_reachVisitors_73 : decode cX0_reachVisitors 73 = .ok (.getfield 22, 3) := by decide +kernel
theorem dX0_reachVisitors_76 : decode cX0_reachVisitors 76 = .ok (.iload_n 2, 1) := by decide +kernel
theorem dX0_reachVisitors_77 : decode cX0_reachVisitors 77 = .ok (.lload 4, 2) := by decide +kernel
theorem dX0_reachVisitors_79 : decode cX0_reachVisitors 79 = .ok (.aload_n 0, 1) := by decide +kernel
theorem dX0_reachVisitors_80 : decode cX0_reachVisitors 80 = .ok (.iload_n 3, 1) := by decide +kernel
theorem dX0_reachVisitors_81 : decode cX0_reachVisitors 81 = .ok (.iload_n 2, 1) := by decide +kernel
theorem dX0_reachVisitors_82 : decode cX0_reachVisitors 82 = .ok (.invokevirtual 105, 3) := by decide +kernel
theorem dX0_reachVisitors_85 : decode cX0_reachVisitors 85 = .ok (.lsub, 1) := by decide +kernel
theorem dX0_reachVisitors_86 : decode cX0_reachVisitors 86 = .ok (.invokestatic 81, 3) := by decide +kernel
theorem dX0_reachVisitors_89 : decode cX0_reachVisitors 89 = .ok (.iconst 1, 1) := by decide +kernel
theorem dX0_reachVisitors_90 : decode cX0_reachVisitors 90 = .ok (.istore_n 1, 1) := by decide +kernel
theorem dX0_reachVisitors_91 : decode cX0_reachVisitors 91 = .ok (.iinc 2 1, 3) := by decide +kernel
theorem dX0_reachVisitors_94 : decode cX0_reachVisitors 94 = .ok (.goto (-90), 3) := by decide +kernel
theorem dX0_reachVisitors_97 : decode cX0_reachVisitors 97 = .ok (.iload_n 1, 1) := by decide +kernel
theorem dX0_reachVisitors_98 : decode cX0_reachVisitors 98 = .ok (.ireturn, 1) := by decide +kernel
theorem dX0_exchange_0 : decode cX0_exchange 0 = .ok (.aload_n 0, 1) := by decide +kernel
theorem dX0_exchange_1 : decode cX0_exchange 1 = .ok (.getfield 19, 3) := by decide +kernel
theorem dX0_exchange_4 : decode cX0_exchange 4 = .ok (.iload_n 1, 1) := by decide +kernel
theorem dX0_exchange_5 : decode cX0_exchange 5 = .ok (.aload_n 0, 1) := by decide +kernel
theorem dX0_exchange_6 : decode cX0_exchange 6 = .ok (.getfield 19, 3) := by decide +kernel
theorem dX0_exchange_9 : decode cX0_exchange 9 = .ok (.iload_n 1, 1) := by decide +kernel
theorem dX0_exchange_10 : decode cX0_exchange 10 = .ok (.invokestatic 95, 3) := by decide +kernel
theorem dX0_exchange_13 : decode cX0_exchange 13 = .ok (.iconst 1, 1) := by decide +kernel
theorem dX0_exchange_14 : decode cX0_exchange 14 = .ok (.isub, 1) := by decide +kernel
theorem dX0_exchange_15 : decode cX0_exchange 15 = .ok (.invokestatic 52, 3) := by decide +kernel
theorem dX0_exchange_18 : decode cX0_exchange 18 = .ok (.iload_n 1, 1) := by decide +kernel
theorem dX0_exchange_19 : decode cX0_exchange 19 = .ok (.istore_n 2, 1) := by decide +kernel
theorem dX0_exchange_20 : decode cX0_exchange 20 = .ok (.iconst 0, 1) := by decide +kernel
theorem dX0_exchange_21 : decode cX0_exchange 21 = .ok (.istore_n 3, 1) := by decide +kernel
theorem dX0_exchange_22 : decode cX0_exchange 22 = .ok (.iload_n 3, 1) := by decide +kernel
theorem dX0_exchange_23 : decode cX0_exchange 23 = .ok (.bipush 10, 2) := by decide +kernel
theorem dX0_exchange_25 : decode cX0_exchange 25 = .ok (.if_icmp .ge 48, 3) := by decide +kernel
theorem dX0_exchange_28 : decode cX0_exchange 28 = .ok (.iload_n 2, 1) := by decide +kernel
theorem dX0_exchange_29 : decode cX0_exchange 29 = .ok (.iconst (-1), 1) := by decide +kernel
theorem dX0_exchange_30 : decode cX0_exchange 30 = .ok (.if_icmp .eq 43, 3) := by decide +kernel
theorem dX0_exchange_33 : decode cX0_exchange 33 = .ok (.aload_n 0, 1) := by decide +kernel
theorem dX0_exchange_34 : decode cX0_exchange 34 = .ok (.getfield 28, 3) := by decide +kernel
theorem dX0_exchange_37 : decode cX0_exchange 37 = .ok (.iload_n 2, 1) := by decide +kernel
theorem dX0_exchange_38 : decode cX0_exchange 38 = .ok (.invokestatic 95, 3) := by decide +kernel
theorem dX0_exchange_41 : decode cX0_exchange 41 = .ok (.istore 4, 2) := by decide +kernel
theorem dX0_exchange_43 : decode cX0_exchange 43 = .ok (.aload_n 0, 1) := by decide +kernel
theorem dX0_exchange_44 : decode cX0_exchange 44 = .ok (.getfield 15, 3) := by decide +kernel
theorem dX0_exchange_47 : decode cX0_exchange 47 = .ok (.iload 4, 2) := by decide +kernel
theorem dX0_exchange_49 : decode cX0_exchange 49 = .ok (.invokestatic 95, 3) := by decide +kernel
theorem dX0_exchange_52 : decode cX0_exchange 52 = .ok (.istore 5, 2) := by decide +kernel
theorem dX0_exchange_54 : decode cX0_exchange 54 = .ok (.aload_n 0, 1) := by decide +kernel
theorem dX0_exchange_55 : decode cX0_exchange 55 = .ok (.getfield 15, 3) := by decide +kernel
theorem dX0_exchange_58 : decode cX0_exchange 58 = .ok (.iload 4, 2) := by decide +kernel
theorem dX0_exchange_60 : decode cX0_exchange 60 = .ok (.iload_n 2, 1) := by decide +kernel
theorem dX0_exchange_61 : decode cX0_exchange 61 = .ok (.invokestatic 52, 3) := by decide +kernel
theorem dX0_exchange_64 : decode cX0_exchange 64 = .ok (.iload 5, 2) := by decide +kernel
theorem dX0_exchange_66 : decode cX0_exchange 66 = .ok (.istore_n 2, 1) := by decide +kernel
theorem dX0_exchange_67 : decode cX0_exchange 67 = .ok (.iinc 3 1, 3) := by decide +kernel
theorem dX0_exchange_70 : decode cX0_exchange 70 = .ok (.goto (-48), 3) := by decide +kernel
theorem dX0_exchange_73 : decode cX0_exchange 73 = .ok (.return_, 1) := by decide +kernel
theorem dX0_sum_0 : decode cX0_sum 0 = .ok (.iconst 0, 1) := by decide +kernel
theorem dX0_sum_1 : decode cX0_sum 1 = .ok (.istore_n 2, 1) := by decide +kernel
theorem dX0_sum_2 : decode cX0_sum 2 = .ok (.iconst 0, 1) := by decide +kernel
theorem dX0_sum_3 : decode cX0_sum 3 = .ok (.istore_n 3, 1) := by decide +kernel
theorem dX0_sum_4 : decode cX0_sum 4 = .ok (.iload_n 3, 1) := by decide +kernel
theorem dX0_sum_5 : decode cX0_sum 5 = .ok (.aload_n 0, 1) := by decide +kernel
theorem dX0_sum_6 : decode cX0_sum 6 = .ok (.getfield 41, 3) := by decide +kernel
theorem dX0_sum_9 : decode cX0_sum 9 = .ok (.if_icmp .ge 39, 3) := by decide +kernel
theorem dX0_sum_12 : decode cX0_sum 12 = .ok (.aload_n 0, 1) := by decide +kernel
theorem dX0_sum_13 : decode cX0_sum 13 = .ok (.getfield 15, 3) := by decide +kernel
theorem dX0_sum_16 : decode cX0_sum 16 = .ok (.iload_n 3, 1) := by decide +kernel
theorem dX0_sum_17 : decode cX0_sum 17 = .ok (.invokestatic 95, 3) := by decide +kernel
theorem dX0_sum_20 : decode cX0_sum 20 = .ok (.istore 4, 2) := by decide +kernel
theorem dX0_sum_22 : decode cX0_sum 22 = .ok (.iload_n 2, 1) := by decide +kernel
theorem dX0_sum_23 : decode cX0_sum 23 = .ok (.iload 4, 2) := by decide +kernel
theorem dX0_sum_25 : decode cX0_sum 25 = .ok (.iconst (-1), 1) := by decide +kernel
theorem dX0_sum_26 : decode cX0_sum 26 = .ok (.if_icmp .ne 7, 3) := by decide +kernel
theorem dX0_sum_29 : decode cX0_sum 29 = .ok (.iconst 0, 1) := by decide +kernel
theorem dX0_sum_30 : decode cX0_sum 30 = .ok (.goto 10, 3) := by decide +kernel
theorem dX0_sum_33 : decode cX0_sum 33 = .ok (.aload_n 1, 1) := by decide +kernel
theorem dX0_sum_34 : decode cX0_sum 34 = .ok (.iload 4, 2) := by decide +kernel
theorem dX0_sum_36 : decode cX0_sum 36 = .ok (.iload_n 3, 1) := by decide +kernel
theorem dX0_sum_37 : decode cX0_sum 37 = .ok (.invokevirtual 70, 3) := by decide +kernel
theorem dX0_sum_40 : decode cX0_sum 40 = .ok (.iadd, 1) := by decide +kernel
theorem dX0_sum_41 : decode cX0_sum 41 = .ok (.istore_n 2, 1) := by decide +kernel
theorem dX0_sum_42 : decode cX0_sum 42 = .ok (.iinc 3 1, 3) := by decide +kernel
theorem dX0_sum_45 : decode cX0_sum 45 = .ok (.goto (-41), 3) := by decide +kernel
theorem dX0_sum_48 : decode cX0_sum 48 = .ok (.iload_n 2, 1) := by decide +kernel
theorem dX0_sum_49 : decode cX0_sum 49 = .ok (.ireturn, 1) := by decide +kernel
theorem dX1_init_0 : decode cX1_init 0 = .ok (.aload_n 0, 1) := by decide +kernel
theorem dX1_init_1 : decode cX1_init 1 = .ok (.invokespecial 3, 3) := by decide +kernel
theorem dX1_init_4 : decode cX1_init 4 = .ok (.aload_n 0, 1) := by decide +kernel
theorem dX1_init_5 : decode cX1_init 5 = .ok (.new 9, 3) := by decide +kernel
theorem dX1_init_8 : decode cX1_init 8 = .ok (.dup, 1) := by decide +kernel
theorem dX1_init_9 : decode cX1_init 9 = .ok (.invokespecial 11, 3) := by decide +kernel
theorem dX1_init_12 : decode cX1_init 12 = .ok (.putfield 12, 3) := by decide +kernel
theorem dX1_init_15 : decode cX1_init 15 = .ok (.return_, 1) := by decide +kernel
theorem dX1_readInto_0 : decode cX1_readInto 0 = .ok (.aload_n 0, 1) := by decide +kernel
theorem dX1_readInto_1 : decode cX1_readInto 1 = .ok (.getfield 12, 3) := by decide +kernel
theorem dX1_readInto_4 : decode cX1_readInto 4 = .ok (.aload_n 2, 1) := by decide +kernel
theorem dX1_readInto_5 : decode cX1_readInto 5 = .ok (.iload_n 3, 1) := by decide +kernel
theorem dX1_readInto_6 : decode cX1_readInto 6 = .ok (.invokevirtual 18, 3) := by decide +kernel
theorem dX1_readInto_9 : decode cX1_readInto 9 = .ok (.aload_n 0, 1) := by decide +kernel
theorem dX1_readInto_10 : decode cX1_readInto 10 = .ok (.getfield 12, 3) := by decide +kernel
theorem dX1_readInto_13 : decode cX1_readInto 13 = .ok (.getfield 22, 3) := by decide +kernel
theorem dX1_readInto_16 : decode cX1_readInto 16 = .ok (.getstatic 26, 3) := by decide +kernel
theorem dX1_readInto_19 : decode cX1_readInto 19 = .ok (.if_acmp .ne 5, 3) := by decide +kernel
theorem dX1_readInto_22 : decode cX1_readInto 22 = .ok (.iconst 1, 1) := by decide +kernel
theorem dX1_readInto_23 : decode cX1_readInto 23 = .ok (.ireturn, 1) := by decide +kernel
theorem dX1_readInto_24 : decode cX1_readInto 24 = .ok (.iconst 0, 1) := by decide +kernel
theorem dX1_readInto_25 : decode cX1_readInto 25 = .ok (.istore 4, 2) := by decide +kernel
theorem dX1_readInto_27 : decode cX1_readInto 27 = .ok (.iload 4, 2) := by decide +kernel
theorem dX1_readInto_29 : decode cX1_readInto 29 = .ok (.bipush 14, 2) := by decide +kernel
theorem dX1_readInto_31 : decode cX1_readInto 31 = .ok (.if_icmp .ge 55, 3) := by decide +kernel
theorem dX1_readInto_34 : decode cX1_readInto 34 = .ok (.aload_n 0, 1) := by decide +kernel
theorem dX1_readInto_35 : decode cX1_readInto 35 = .ok (.aload_n 1, 1) := by decide +kernel
theorem dX1_readInto_36 : decode cX1_readInto 36 = .ok (.invokevirtual 31, 3) := by decide +kernel
theorem dX1_readInto_39 : decode cX1_readInto 39 = .ok (.ifCond .ne 5, 3) := by decide +kernel
theorem dX1_readInto_42 : decode cX1_readInto 42 = .ok (.iconst 0, 1) := by decide +kernel
theorem dX1_readInto_43 : decode cX1_readInto 43 = .ok (.ireturn, 1) := by decide +kernel
theorem dX1_readInto_44 : decode cX1_readInto 44 = .ok (.aload_n 0, 1) := by decide +kernel
theorem dX1_readInto_45 : decode cX1_readInto 45 = .ok (.getfield 12, 3) := by decide +kernel
theorem dX1_readInto_48 : decode cX1_readInto 48 = .ok (.getfield 22, 3) := by decide +kernel
theorem dX1_readInto_51 : decode cX1_readInto 51 = .ok (.getstatic 26, 3) := by decide +kernel
theorem dX1_readInto_54 : decode cX1_readInto 54 = .ok (.if_acmp .ne 5, 3) := by decide +kernel
theorem dX1_readInto_57 : decode cX1_readInto 57 = .ok (.iconst 1, 1) := by decide +kernel
theorem dX1_readInto_58 : decode cX1_readInto 58 = .ok (.ireturn, 1) := by decide +kernel
theorem dX1_readInto_59 : decode cX1_readInto 59 = .ok (.aload_n 0, 1) := by decide +kernel
theorem dX1_readInto_60 : decode cX1_readInto 60 = .ok (.getfield 12, 3) := by decide +kernel
theorem dX1_readInto_63 : decode cX1_readInto 63 = .ok (.getstatic 35, 3) := by decide +kernel
theorem dX1_readInto_66 : decode cX1_readInto 66 = .ok (.invokevirtual 38, 3) := by decide +kernel
theorem dX1_readInto_69 : decode cX1_readInto 69 = .ok (.ifCond .ne 11, 3) := by decide +kernel
theorem dX1_readInto_72 : decode cX1_readInto 72 = .ok (.aload_n 0, 1) := by decide +kernel
theorem dX1_readInto_73 : decode cX1_readInto 73 = .ok (.getfield 12, 3) := by decide +kernel
theorem dX1_readInto_76 : decode cX1_readInto 76 = .ok (.invokevirtual 42, 3) := by decide +kernel
theorem dX1_readInto_79 : decode cX1_readInto 79 = .ok (.ireturn, 1) := by decide +kernel
theorem dX1_readInto_80 : decode cX1_readInto 80 = .ok (.iinc 4 1, 3) := by decide +kernel
theorem dX1_readInto_83 : decode cX1_readInto 83 = .ok (.goto (-56), 3) := by decide +kernel
theorem dX1_readInto_86 : decode cX1_readInto 86 = .ok (.aload_n 0, 1) := by decide +kernel
theorem dX1_readInto_87 : decode cX1_readInto 87 = .ok (.getfield 12, 3) := by decide +kernel
theorem dX1_readInto_90 : decode cX1_readInto 90 = .ok (.invokevirtual 42, 3) := by decide +kernel
theorem dX1_readInto_93 : decode cX1_readInto 93 = .ok (.ireturn, 1) := by decide +kernel
theorem dX1_readLine_0 : decode cX1_readLine 0 = .ok (.aload_n 0, 1) := by decide +kernel
theorem dX1_readLine_1 : decode cX1_readLine 1 = .ok (.getfield 12, 3) := by decide +kernel
theorem dX1_readLine_4 : decode cX1_readLine 4 = .ok (.getfield 22, 3) := by decide +kernel
theorem dX1_readLine_7 : decode cX1_readLine 7 = .ok (.getstatic 46, 3) := by decide +kernel
theorem dX1_readLine_10 : decode cX1_readLine 10 = .ok (.if_acmp .ne 18, 3) := by decide +kernel
theorem dX1_readLine_13 : decode cX1_readLine 13 = .ok (.aload_n 1, 1) := by decide +kernel
theorem dX1_readLine_14 : decode cX1_readLine 14 = .ok (.getfield 49, 3) := by decide +kernel
theorem dX1_readLine_17 : decode cX1_readLine 17 = .ok (.bipush 9, 2) := by decide +kernel
theorem dX1_readLine_19 : decode cX1_readLine 19 = .ok (.if_icmp .ge 9, 3) := by decide +kernel
theorem dX1_readLine_22 : decode cX1_readLine 22 = .ok (.aload_n 0, 1) := by decide +kernel
theorem dX1_readLine_23 : decode cX1_readLine 23 = .ok (.aload_n 1, 1) := by decide +kernel
theorem dX1_readLine_24 : decode cX1_readLine 24 = .ok (.invokevirtual 55, 3) := by decide +kernel
theorem dX1_readLine_27 : decode cX1_readLine 27 = .ok (.ireturn, 1) := by decide +kernel
theorem dX1_readLine_28 : decode cX1_readLine 28 = .ok (.aload_n 0, 1) := by decide +kernel
theorem dX1_readLine_29 : decode cX1_readLine 29 = .ok (.getfield 12, 3) := by decide +kernel
theorem dX1_readLine_32 : decode cX1_readLine 32 = .ok (.getfield 22, 3) := by decide +kernel
theorem dX1_readLine_35 : decode cX1_readLine 35 = .ok (.getstatic 58, 3) := by decide +kernel
theorem dX1_readLine_38 : decode cX1_readLine 38 = .ok (.if_acmp .ne 18, 3) := by decide +kernel
theorem dX1_readLine_41 : decode cX1_readLine 41 = .ok (.aload_n 1, 1) := by decide +kernel
theorem dX1_readLine_42 : decode cX1_readLine 42 = .ok (.getfield 61, 3) := by decide +kernel
theorem dX1_readLine_45 : decode cX1_readLine 45 = .ok (.bipush 10, 2) := by decide +kernel
theorem dX1_readLine_47 : decode cX1_readLine 47 = .ok (.if_icmp .ge 9, 3) := by decide +kernel
theorem dX1_readLine_50 : decode cX1_readLine 50 = .ok (.aload_n 0, 1) := by decide +kernel
theorem dX1_readLine_51 : decode cX1_readLine 51 = .ok (.aload_n 1, 1) := by decide +kernel
theorem dX1_readLine_52 : decode cX1_readLine 52 = .ok (.invokevirtual 64, 3) := by decide +kernel
theorem dX1_readLine_55 : decode cX1_readLine 55 = .ok (.ireturn, 1) := by decide +kernel
theorem dX1_readLine_56 : decode cX1_readLine 56 = .ok (.aload_n 0, 1) := by decide +kernel
theorem dX1_readLine_57 : decode cX1_readLine 57 = .ok (.getfield 12, 3) := by decide +kernel
theorem dX1_readLine_60 : decode cX1_readLine 60 = .ok (.getfield 22, 3) := by decide +kernel
theorem dX1_readLine_63 : decode cX1_readLine 63 = .ok (.getstatic 67, 3) := by decide +kernel
theorem dX1_readLine_66 : decode cX1_readLine 66 = .ok (.if_acmp .ne 9, 3) := by decide +kernel
theorem dX1_readLine_69 : decode cX1_readLine 69 = .ok (.aload_n 0, 1) := by decide +kernel
theorem dX1_readLine_70 : decode cX1_readLine 70 = .ok (.aload_n 1, 1) := by decide +kernel
theorem dX1_readLine_71 : decode cX1_readLine 71 = .ok (.invokevirtual 70, 3) := by decide +kernel
theorem dX1_readLine_74 : decode cX1_readLine 74 = .ok (.ireturn, 1) := by decide +kernel
theorem dX1_readLine_75 : decode cX1_readLine 75 = .ok (.aload_n 0, 1) := by decide +kernel
theorem dX1_readLine_76 : decode cX1_readLine 76 = .ok (.getfield 12, 3) := by decide +kernel
theorem dX1_readLine_79 : decode cX1_readLine 79 = .ok (.getfield 22, 3) := by decide +kernel
theorem dX1_readLine_82 : decode cX1_readLine 82 = .ok (.getstatic 73, 3) := by decide +kernel
theorem dX1_readLine_85 : decode cX1_readLine 85 = .ok (.if_acmp .ne 11, 3) := by decide +kernel
theorem dX1_readLine_88 : decode cX1_readLine 88 = .ok (.aload_n 0, 1) := by decide +kernel
theorem dX1_readLine_89 : decode cX1_readLine 89 = .ok (.aload_n 1, 1) := by decide +kernel
theorem dX1_readLine_90 : decode cX1_readLine 90 = .ok (.invokevirtual 76, 3) := by decide +kernel
theorem dX1_readLine_93 : decode cX1_readLine 93 = .ok (.goto 10, 3) := by decide +kernel
theorem dX1_readLine_96 : decode cX1_readLine 96 = .ok (.aload_n 0, 1) := by decide +kernel
theorem dX1_readLine_97 : decode cX1_readLine 97 = .ok (.getfield 12, 3) := by decide +kernel
theorem dX1_readLine_100 : decode cX1_readLine 100 = .ok (.invokevirtual 42, 3) := by decide +kernel
theorem dX1_readLine_103 : decode cX1_readLine 103 = .ok (.ireturn, 1) := by decide +kernel
theorem dX1_readThing_0 : decode cX1_readThing 0 = .ok (.aload_n 0, 1) := by decide +kernel
theorem dX1_readThing_1 : decode cX1_readThing 1 = .ok (.getfield 12, 3) := by decide +kernel
theorem dX1_readThing_4 : decode cX1_readThing 4 = .ok (.invokevirtual 79, 3) := by decide +kernel
theorem dX1_readThing_7 : decode cX1_readThing 7 = .ok (.aload_n 0, 1) := by decide +kernel
theorem dX1_readThing_8 : decode cX1_readThing 8 = .ok (.aload_n 1, 1) := by decide +kernel
theorem dX1_readThing_9 : decode cX1_readThing 9 = .ok (.invokevirtual 82, 3) := by decide +kernel
theorem dX1_readThing_12 : decode cX1_readThing 12 = .ok (.ifCond .ne 5, 3) := by decide +kernel
theorem dX1_readThing_15 : decode cX1_readThing 15 = .ok (.iconst 0, 1) := by decide +kernel
theorem dX1_readThing_16 : decode cX1_readThing 16 = .ok (.ireturn, 1) := by decide +kernel
theorem dX1_readThing_17 : decode cX1_readThing 17 = .ok (.aload_n 0, 1) := by decide +kernel
theorem dX1_readThing_18 : decode cX1_readThing 18 = .ok (.getfield 85, 3) := by decide +kernel
theorem dX1_readThing_21 : decode cX1_readThing 21 = .ok (.istore_n 2, 1) := by decide +kernel
theorem dX1_readThing_22 : decode cX1_readThing 22 = .ok (.aload_n 0, 1) := by decide +kernel
theorem dX1_readThing_23 : decode cX1_readThing 23 = .ok (.getstatic 88, 3) := by decide +kernel
theorem dX1_readThing_26 : decode cX1_readThing 26 = .ok (.iconst 0, 1) := by decide +kernel
theorem dX1_readThing_27 : decode cX1_readThing 27 = .ok (.bipush 99, 2) := by decide +kernel
theorem dX1_readThing_29 : decode cX1_readThing 29 = .ok (.invokevirtual 91, 3) := by decide +kernel
theorem dX1_readThing_32 : decode cX1_readThing 32 = .ok (.ifCond .ne 5, 3) := by decide +kernel
theorem dX1_readThing_35 : decode cX1_readThing 35 = .ok (.iconst 0, 1) := by decide +kernel
theorem dX1_readThing_36 : decode cX1_readThing 36 = .ok (.ireturn, 1) := by decide +kernel
theorem dX1_readThing_37 : decode cX1_readThing 37 = .ok (.aload_n 0, 1) := by decide +kernel
theorem dX1_readThing_38 : decode cX1_readThing 38 = .ok (.getfield 85, 3) := by decide +kernel
theorem dX1_readThing_41 : decode cX1_readThing 41 = .ok (.istore_n 3, 1) := by decide +kernel
theorem dX1_readThing_42 : decode cX1_readThing 42 = .ok (.aload_n 0, 1) := by decide +kernel
theorem dX1_readThing_43 : decode cX1_readThing 43 = .ok (.getstatic 95, 3) := by decide +kernel
theorem dX1_readThing_46 : decode cX1_readThing 46 = .ok (.iconst 1, 1) := by decide +kernel
theorem dX1_readThing_47 : decode cX1_readThing 47 = .ok (.iconst 3, 1) := by decide +kernel
theorem dX1_readThing_48 : decode cX1_readThing 48 = .ok (.invokevirtual 91, 3) := by decide +kernel
theorem dX1_readThing_51 : decode cX1_readThing 51 = .ok (.ifCond .ne 5, 3) := by decide +kernel
theorem dX1_readThing_54 : decode cX1_readThing 54 = .ok (.iconst 0, 1) := by decide +kernel
theorem dX1_readThing_55 : decode cX1_readThing 55 = .ok (.ireturn, 1) := by decide +kernel
theorem dX1_readThing_56 : decode cX1_readThing 56 = .ok (.aload_n 1, 1) := by decide +kernel
theorem dX1_readThing_57 : decode cX1_readThing 57 = .ok (.iload_n 2, 1) := by decide +kernel
theorem dX1_readThing_58 : decode cX1_readThing 58 = .ok (.iload_n 3, 1) := by decide +kernel
theorem dX1_readThing_59 : decode cX1_readThing 59 = .ok (.aload_n 0, 1) := by decide +kernel
theorem dX1_readThing_60 : decode cX1_readThing 60 = .ok (.getfield 85, 3) := by decide +kernel
theorem dX1_readThing_63 : decode cX1_readThing 63 = .ok (.invokevirtual 98, 3) := by decide +kernel
theorem dX1_readThing_66 : decode cX1_readThing 66 = .ok (.iconst 1, 1) := by decide +kernel
theorem dX1_readThing_67 : decode cX1_readThing 67 = .ok (.ireturn, 1) := by decide +kernel
theorem dX1_readCell_0 : decode cX1_readCell 0 = .ok (.aload_n 0, 1) := by decide +kernel
theorem dX1_readCell_1 : decode cX1_readCell 1 = .ok (.getfield 12, 3) := by decide +kernel
theorem dX1_readCell_4 : decode cX1_readCell 4 = .ok (.getstatic 102, 3) := by decide +kernel
theorem dX1_readCell_7 : decode cX1_readCell 7 = .ok (.invokevirtual 38, 3) := by decide +kernel
theorem dX1_readCell_10 : decode cX1_readCell 10 = .ok (.ifCond .ne 11, 3) := by decide +kernel
theorem dX1_readCell_13 : decode cX1_readCell 13 = .ok (.aload_n 0, 1) := by decide +kernel
theorem dX1_readCell_14 : decode cX1_readCell 14 = .ok (.getfield 12, 3) := by decide +kernel
theorem dX1_readCell_17 : decode cX1_readCell 17 = .ok (.invokevirtual 42, 3) := by decide +kernel
theorem dX1_readCell_20 : decode cX1_readCell 20 = .ok (.ireturn, 1) := by decide +kernel
theorem dX1_readCell_21 : decode cX1_readCell 21 = .ok (.aload_n 0, 1) := by decide +kernel
theorem dX1_readCell_22 : decode cX1_readCell 22 = .ok (.aload_n 0, 1) := by decide +kernel
theorem dX1_readCell_23 : decode cX1_readCell 23 = .ok (.getfield 12, 3) := by decide +kernel
theorem dX1_readCell_26 : decode cX1_readCell 26 = .ok (.iconst 0, 1) := by decide +kernel
theorem dX1_readCell_27 : decode cX1_readCell 27 = .ok (.bipush 19, 2) := by decide +kernel
theorem dX1_readCell_29 : decode cX1_readCell 29 = .ok (.invokevirtual 105, 3) := by decide +kernel
theorem dX1_readCell_32 : decode cX1_readCell 32 = .ok (.putfield 85, 3) := by decide +kernel
theorem dX1_readCell_35 : decode cX1_readCell 35 = .ok (.aload_n 0, 1) := by decide +kernel
theorem dX1_readCell_36 : decode cX1_readCell 36 = .ok (.getfield 85, 3) := by decide +kernel
theorem dX1_readCell_39 : decode cX1_readCell 39 = .ok (.iconst (-1), 1) := by decide +kernel
theorem dX1_readCell_40 : decode cX1_readCell 40 = .ok (.if_icmp .eq 15, 3) := by decide +kernel
theorem dX1_readCell_43 : decode cX1_readCell 43 = .ok (.aload_n 1, 1) := by decide +kernel
theorem dX1_readCell_44 : decode cX1_readCell 44 = .ok (.aload_n 0, 1) := by decide +kernel
theorem dX1_readCell_45 : decode cX1_readCell 45 = .ok (.getfield 85, 3) := by decide +kernel
theorem dX1_readCell_48 : decode cX1_readCell 48 = .ok (.invokevirtual 109, 3) := by decide +kernel
theorem dX1_readCell_51 : decode cX1_readCell 51 = .ok (.iconst (-1), 1) := by decide +kernel
theorem dX1_readCell_52 : decode cX1_readCell 52 = .ok (.if_icmp .eq 11, 3) := by decide +kernel
theorem dX1_readCell_55 : decode cX1_readCell 55 = .ok (.aload_n 0, 1) := by decide +kernel
theorem dX1_readCell_56 : decode cX1_readCell 56 = .ok (.getfield 12, 3) := by decide +kernel
theorem dX1_readCell_59 : decode cX1_readCell 59 = .ok (.invokevirtual 42, 3) := by decide +kernel
theorem dX1_readCell_62 : decode cX1_readCell 62 = .ok (.ireturn, 1) := by decide +kernel
theorem dX1_readCell_63 : decode cX1_readCell 63 = .ok (.aload_n 0, 1) := by decide +kernel
theorem dX1_readCell_64 : decode cX1_readCell 64 = .ok (.getfield 12, 3) := by decide +kernel
theorem dX1_readCell_67 : decode cX1_readCell 67 = .ok (.invokevirtual 79, 3) := by decide +kernel
theorem dX1_readCell_70 : decode cX1_readCell 70 = .ok (.iconst 1, 1) := by decide +kernel
theorem dX1_readCell_71 : decode cX1_readCell 71 = .ok (.ireturn, 1) := by decide +kernel
theorem dX1_readVisitor_0 : decode cX1_readVisitor 0 = .ok (.aload_n 1, 1) := by decide +kernel
theorem dX1_readVisitor_1 : decode cX1_readVisitor 1 = .ok (.getfield 61, 3) := by decide +kernel
theorem dX1_readVisitor_4 : decode cX1_readVisitor 4 = .ok (.istore_n 2, 1) := by decide +kernel
theorem dX1_readVisitor_5 : decode cX1_readVisitor 5 = .ok (.aload_n 1, 1) := by decide +kernel
theorem dX1_readVisitor_6 : decode cX1_readVisitor 6 = .ok (.dup, 1) := by decide +kernel
theorem dX1_readVisitor_7 : decode cX1_readVisitor 7 = .ok (.getfield 61, 3) := by decide +kernel
theorem dX1_readVisitor_10 : decode cX1_readVisitor 10 = .ok (.iconst 1, 1) := by decide +kernel
theorem dX1_readVisitor_11 : decode cX1_readVisitor 11 = .ok (.iadd, 1) := by decide +kernel
theorem dX1_readVisitor_12 : decode cX1_readVisitor 12 = .ok (.putfield 61, 3) := by decide +kernel
theorem dX1_readVisitor_15 : decode cX1_readVisitor 15 = .ok (.aload_n 0, 1) := by decide +kernel
theorem dX1_readVisitor_16 : decode cX1_readVisitor 16 = .ok (.getfield 12, 3) := by decide +kernel
theorem dX1_readVisitor_19 : decode cX1_readVisitor 19 = .ok (.invokevirtual 79, 3) := by decide +kernel
theorem dX1_readVisitor_22 : decode cX1_readVisitor 22 = .ok (.iconst 0, 1) := by decide +kernel
theorem dX1_readVisitor_23 : decode cX1_readVisitor 23 = .ok (.istore_n 3, 1) := by decide +kernel
theorem dX1_readVisitor_24 : decode cX1_readVisitor 24 = .ok (.iload_n 3, 1) := by decide +kernel
theorem dX1_readVisitor_25 : decode cX1_readVisitor 25 = .ok (.iconst 3, 1) := by decide +kernel
theorem dX1_readVisitor_26 : decode cX1_readVisitor 26 = .ok (.if_icmp .gt 29, 3) := by decide +kernel
theorem dX1_readVisitor_29 : decode cX1_readVisitor 29 = .ok (.aload_n 0, 1) := by decide +kernel
theorem dX1_readVisitor_30 : decode cX1_readVisitor 30 = .ok (.iload_n 3, 1) := by decide +kernel
theorem dX1_readVisitor_31 : decode cX1_readVisitor 31 = .ok (.invokevirtual 113, 3) := by decide +kernel
theorem dX1_readVisitor_34 : decode cX1_readVisitor 34 = .ok (.ifCond .ne 5, 3) := by decide +kernel
theorem dX1_readVisitor_37 : decode cX1_readVisitor 37 = .ok (.iconst 0, 1) := by decide +kernel
theorem dX1_readVisitor_38 : decode cX1_readVisitor 38 = .ok (.ireturn, 1) := by decide +kernel
theorem dX1_readVisitor_39 : decode cX1_readVisitor 39 = .ok (.aload_n 1, 1) := by decide +kernel
theorem dX1_readVisitor_40 : decode cX1_readVisitor 40 = .ok (.iload_n 2, 1) := by decide +kernel
theorem dX1_readVisitor_41 : decode cX1_readVisitor 41 = .ok (.iload_n 3, 1) := by decide +kernel
theorem dX1_readVisitor_42 : decode cX1_readVisitor 42 = .ok (.aload_n 0, 1) := by decide +kernel
theorem dX1_readVisitor_43 : decode cX1_readVisitor 43 = .ok (.getfield 85, 3) := by decide +kernel
theorem dX1_readVisitor_46 : decode cX1_readVisitor 46 = .ok (.invokevirtual 117, 3) := by decide +kernel
theorem dX1_readVisitor_49 : decode cX1_readVisitor 49 = .ok (.iinc 3 1, 3) := by decide +kernel
theorem dX1_readVisitor_52 : decode cX1_readVisitor 52 = .ok (.goto (-28), 3) := by decide +kernel
theorem dX1_readVisitor_55 : decode cX1_readVisitor 55 = .ok (.aload_n 1, 1) := by decide +kernel
theorem dX1_readVisitor_56 : decode cX1_readVisitor 56 = .ok (.iload_n 2, 1) := by decide +kernel
theorem dX1_readVisitor_57 : decode cX1_readVisitor 57 = .ok (.iconst 4, 1) := by decide +kernel
theorem dX1_readVisitor_58 : decode cX1_readVisitor 58 = .ok (.iconst 0, 1) := by decide +kernel
theorem dX1_readVisitor_59 : decode cX1_readVisitor 59 = .ok (.invokevirtual 117, 3) := by decide +kernel
theorem dX1_readVisitor_62 : decode cX1_readVisitor 62 = .ok (.aload_n 0, 1) := by decide +kernel
theorem dX1_readVisitor_63 : decode cX1_readVisitor 63 = .ok (.getfield 12, 3) := by decide +kernel
theorem dX1_readVisitor_66 : decode cX1_readVisitor 66 = .ok (.getstatic 120, 3) := by decide +kernel
theorem dX1_readVisitor_69 : decode cX1_readVisitor 69 = .ok (.invokevirtual 38, 3) := by decide +kernel
theorem dX1_readVisitor_72 : decode cX1_readVisitor 72 = .ok (.ifCond .eq 12, 3) := by decide +kernel
theorem dX1_readVisitor_75 : decode cX1_readVisitor 75 = .ok (.aload_n 0, 1) := by decide +kernel
theorem dX1_readVisitor_76 : decode cX1_readVisitor 76 = .ok (.aload_n 1, 1) := by decide +kernel
theorem dX1_readVisitor_77 : decode cX1_readVisitor 77 = .ok (.iload_n 2, 1) := by decide +kernel
theorem dX1_readVisitor_78 : decode cX1_readVisitor 78 = .ok (.invokevirtual 123, 3) := by decide +kernel
theorem dX1_readVisitor_81 : decode cX1_readVisitor 81 = .ok (.ifCond .eq 7, 3) := by decide +kernel
theorem dX1_readVisitor_84 : decode cX1_readVisitor 84 = .ok (.iconst 1, 1) := by decide +kernel
theorem dX1_readVisitor_85 : decode cX1_readVisitor 85 = .ok (.goto 4, 3) := by decide +kernel
theorem dX1_readVisitor_88 : decode cX1_readVisitor 88 = .ok (.iconst 0, 1) := by decide +kernel
theorem dX1_readVisitor_89 : decode cX1_readVisitor 89 = .ok (.ireturn, 1) := by decide +kernel
theorem dX1_readColumn_0 : decode cX1_readColumn 0 = .ok (.iload_n 1, 1) := by decide +kernel
theorem dX1_readColumn_1 : decode cX1_readColumn 1 = .ok (.tableswitch 60 0 2 #[27, 38, 49], 27) := by decide +kernel
theorem dX1_readColumn_28 : decode cX1_readColumn 28 = .ok (.aload_n 0, 1) := by decide +kernel
theorem dX1_readColumn_29 : decode cX1_readColumn 29 = .ok (.getstatic 127, 3) := by decide +kernel
theorem dX1_readColumn_32 : decode cX1_readColumn 32 = .ok (.iconst 0, 1) := by decide +kernel
theorem dX1_readColumn_33 : decode cX1_readColumn 33 = .ok (.bipush 99, 2) := by decide +kernel
theorem dX1_readColumn_35 : decode cX1_readColumn 35 = .ok (.invokevirtual 91, 3) := by decide +kernel
theorem dX1_readColumn_38 : decode cX1_readColumn 38 = .ok (.ireturn, 1) := by decide +kernel
theorem dX1_readColumn_39 : decode cX1_readColumn 39 = .ok (.aload_n 0, 1) := by decide +kernel
theorem dX1_readColumn_40 : decode cX1_readColumn 40 = .ok (.getstatic 130, 3) := by decide +kernel
theorem dX1_readColumn_43 : decode cX1_readColumn 43 = .ok (.iconst 0, 1) := by decide +kernel
theorem dX1_readColumn_44 : decode cX1_readColumn 44 = .ok (.bipush 9, 2) := by decide +kernel
theorem dX1_readColumn_46 : decode cX1_readColumn 46 = .ok (.invokevirtual 91, 3) := by decide +kernel
theorem dX1_readColumn_49 : decode cX1_readColumn 49 = .ok (.ireturn, 1) := by decide +kernel
theorem dX1_readColumn_50 : decode cX1_readColumn 50 = .ok (.aload_n 0, 1) := by decide +kernel
theorem dX1_readColumn_51 : decode cX1_readColumn 51 = .ok (.getstatic 133, 3) := by decide +kernel
theorem dX1_readColumn_54 : decode cX1_readColumn 54 = .ok (.iconst 0, 1) := by decide +kernel
theorem dX1_readColumn_55 : decode cX1_readColumn 55 = .ok (.bipush 9, 2) := by decide +kernel
theorem dX1_readColumn_57 : decode cX1_readColumn 57 = .ok (.invokevirtual 91, 3) := by decide +kernel
theorem dX1_readColumn_60 : decode cX1_readColumn 60 = .ok (.ireturn, 1) := by decide +kernel
theorem dX1_readColumn_61 : decode cX1_readColumn 61 = .ok (.aload_n 0, 1) := by decide +kernel
theorem dX1_readColumn_62 : decode cX1_readColumn 62 = .ok (.getstatic 136, 3) := by decide +kernel
theorem dX1_readColumn_65 : decode cX1_readColumn 65 = .ok (.iconst 0, 1) := by decide +kernel
theorem dX1_readColumn_66 : decode cX1_readColumn 66 = .ok (.bipush 100, 2) := by decide +kernel
theorem dX1_readColumn_68 : decode cX1_readColumn 68 = .ok (.invokevirtual 91, 3) := by decide +kernel
theorem dX1_readColumn_71 : decode cX1_readColumn 71 = .ok (.ireturn, 1) := by decide +kernel
theorem dX1_readMarks_0 : decode cX1_readMarks 0 = .ok (.aload_n 0, 1) := by decide +kernel
theorem dX1_readMarks_1 : decode cX1_readMarks 1 = .ok (.getfield 12, 3) := by decide +kernel
theorem dX1_readMarks_4 : decode cX1_readMarks 4 = .ok (.invokevirtual 139, 3) := by decide +kernel
theorem dX1_readMarks_7 : decode cX1_readMarks 7 = .ok (.istore_n 3, 1) := by decide +kernel
theorem dX1_readMarks_8 : decode cX1_readMarks 8 = .ok (.iload_n 3, 1) := by decide +kernel
theorem dX1_readMarks_9 : decode cX1_readMarks 9 = .ok (.iconst (-1), 1) := by decide +kernel
theorem dX1_readMarks_10 : decode cX1_readMarks 10 = .ok (.if_icmp .ne 11, 3) := by decide +kernel
theorem dX1_readMarks_13 : decode cX1_readMarks 13 = .ok (.aload_n 0, 1) := by decide +kernel
theorem dX1_readMarks_14 : decode cX1_readMarks 14 = .ok (.getfield 12, 3) := by decide +kernel
theorem dX1_readMarks_17 : decode cX1_readMarks 17 = .ok (.invokevirtual 42, 3) := by decide +kernel
theorem dX1_readMarks_20 : decode cX1_readMarks 20 = .ok (.ireturn, 1) := by decide +kernel
theorem dX1_readMarks_21 : decode cX1_readMarks 21 = .ok (.aload_n 1, 1) := by decide +kernel
theorem dX1_readMarks_22 : decode cX1_readMarks 22 = .ok (.iload_n 2, 1) := by decide +kernel
theorem dX1_readMarks_23 : decode cX1_readMarks 23 = .ok (.iconst 4, 1) := by decide +kernel
theorem dX1_readMarks_24 : decode cX1_readMarks 24 = .ok (.iload_n 3, 1) := by decide +kernel
theorem dX1_readMarks_25 : decode cX1_readMarks 25 = .ok (.invokevirtual 117, 3) := by decide +kernel
theorem dX1_readMarks_28 : decode cX1_readMarks 28 = .ok (.aload_n 0, 1) := by decide +kernel
theorem dX1_readMarks_29 : decode cX1_readMarks 29 = .ok (.getfield 12, 3) := by decide +kernel
theorem dX1_readMarks_32 : decode cX1_readMarks 32 = .ok (.invokevirtual 79, 3) := by decide +kernel
theorem dX1_readMarks_35 : decode cX1_readMarks 35 = .ok (.iconst 1, 1) := by decide +kernel
theorem dX1_readMarks_36 : decode cX1_readMarks 36 = .ok (.ireturn, 1) := by decide +kernel
theorem dX1_readSpeed_0 : decode cX1_readSpeed 0 = .ok (.aload_n 0, 1) := by decide +kernel
theorem dX1_readSpeed_1 : decode cX1_readSpeed 1 = .ok (.getstatic 67, 3) := by decide +kernel
theorem dX1_readSpeed_4 : decode cX1_readSpeed 4 = .ok (.iconst 1, 1) := by decide +kernel
theorem dX1_readSpeed_5 : decode cX1_readSpeed 5 = .ok (.bipush 9, 2) := by decide +kernel
theorem dX1_readSpeed_7 : decode cX1_readSpeed 7 = .ok (.invokevirtual 91, 3) := by decide +kernel
theorem dX1_readSpeed_10 : decode cX1_readSpeed 10 = .ok (.istore_n 2, 1) := by decide +kernel
theorem dX1_readSpeed_11 : decode cX1_readSpeed 11 = .ok (.iload_n 2, 1) := by decide +kernel
theorem dX1_readSpeed_12 : decode cX1_readSpeed 12 = .ok (.ifCond .eq 11, 3) := by decide +kernel
theorem dX1_readSpeed_15 : decode cX1_readSpeed 15 = .ok (.aload_n 1, 1) := by decide +kernel
theorem dX1_readSpeed_16 : decode cX1_readSpeed 16 = .ok (.aload_n 0, 1) := by decide +kernel
theorem dX1_readSpeed_17 : decode cX1_readSpeed 17 = .ok (.getfield 85, 3) := by decide +kernel
theorem dX1_readSpeed_20 : decode cX1_readSpeed 20 = .ok (.putfield 143, 3) := by decide +kernel
theorem dX1_readSpeed_23 : decode cX1_readSpeed 23 = .ok (.iload_n 2, 1) := by decide +kernel
theorem dX1_readSpeed_24 : decode cX1_readSpeed 24 = .ok (.ireturn, 1) := by decide +kernel
theorem dX1_readCellar_0 : decode cX1_readCellar 0 = .ok (.aload_n 0, 1) := by decide +kernel
theorem dX1_readCellar_1 : decode cX1_readCellar 1 = .ok (.getstatic 73, 3) := by decide +kernel
theorem dX1_readCellar_4 : decode cX1_readCellar 4 = .ok (.iconst 0, 1) := by decide +kernel
theorem dX1_readCellar_5 : decode cX1_readCellar 5 = .ok (.aload_n 1, 1) := by decide +kernel
theorem dX1_readCellar_6 : decode cX1_readCellar 6 = .ok (.getfield 49, 3) := by decide +kernel
theorem dX1_readCellar_9 : decode cX1_readCellar 9 = .ok (.iconst 1, 1) := by decide +kernel
theorem dX1_readCellar_10 : decode cX1_readCellar 10 = .ok (.isub, 1) := by decide +kernel
theorem dX1_readCellar_11 : decode cX1_readCellar 11 = .ok (.invokevirtual 91, 3) := by decide +kernel
theorem dX1_readCellar_14 : decode cX1_readCellar 14 = .ok (.istore_n 2, 1) := by decide +kernel
theorem dX1_readCellar_15 : decode cX1_readCellar 15 = .ok (.iload_n 2, 1) := by decide +kernel
theorem dX1_readCellar_16 : decode cX1_readCellar 16 = .ok (.ifCond .eq 13, 3) := by decide +kernel
theorem dX1_readCellar_19 : decode cX1_readCellar 19 = .ok (.aload_n 1, 1) := by decide +kernel
theorem dX1_readCellar_20 : decode cX1_readCellar 20 = .ok (.aload_n 0, 1) := by decide +kernel
theorem dX1_readCellar_21 : decode cX1_readCellar 21 = .ok (.getfield 85, 3) := by decide +kernel
theorem dX1_readCellar_24 : decode cX1_readCellar 24 = .ok (.iconst 3, 1) := by decide +kernel
theorem dX1_readCellar_25 : decode cX1_readCellar 25 = .ok (.iconst 0, 1) := by decide +kernel
theorem dX1_readCellar_26 : decode cX1_readCellar 26 = .ok (.invokevirtual 146, 3) := by decide +kernel
theorem dX1_readCellar_29 : decode cX1_readCellar 29 = .ok (.iload_n 2, 1) := by decide +kernel
theorem dX1_readCellar_30 : decode cX1_readCellar 30 = .ok (.ireturn, 1) := by decide +kernel
theorem dX1_readNamed_0 : decode cX1_readNamed 0 = .ok (.aload_n 0, 1) := by decide +kernel
theorem dX1_readNamed_1 : decode cX1_readNamed 1 = .ok (.getfield 12, 3) := by decide +kernel
theorem dX1_readNamed_4 : decode cX1_readNamed 4 = .ok (.aload_n 1, 1) := by decide +kernel
theorem dX1_readNamed_5 : decode cX1_readNamed 5 = .ok (.invokevirtual 38, 3) := by decide +kernel
theorem dX1_readNamed_8 : decode cX1_readNamed 8 = .ok (.ifCond .ne 11, 3) := by decide +kernel
theorem dX1_readNamed_11 : decode cX1_readNamed 11 = .ok (.aload_n 0, 1) := by decide +kernel
theorem dX1_readNamed_12 : decode cX1_readNamed 12 = .ok (.getfield 12, 3) := by decide +kernel
theorem dX1_readNamed_15 : decode cX1_readNamed 15 = .ok (.invokevirtual 42, 3) := by decide +kernel
theorem dX1_readNamed_18 : decode cX1_readNamed 18 = .ok (.ireturn, 1) := by decide +kernel
theorem dX1_readNamed_19 : decode cX1_readNamed 19 = .ok (.aload_n 0, 1) := by decide +kernel
theorem dX1_readNamed_20 : decode cX1_readNamed 20 = .ok (.aload_n 0, 1) := by decide +kernel
theorem dX1_readNamed_21 : decode cX1_readNamed 21 = .ok (.getfield 12, 3) := by decide +kernel
theorem dX1_readNamed_24 : decode cX1_readNamed 24 = .ok (.iload_n 2, 1) := by decide +kernel
theorem dX1_readNamed_25 : decode cX1_readNamed 25 = .ok (.iload_n 3, 1) := by decide +kernel
theorem dX1_readNamed_26 : decode cX1_readNamed 26 = .ok (.invokevirtual 105, 3) := by decide +kernel
theorem dX1_readNamed_29 : decode cX1_readNamed 29 = .ok (.putfield 85, 3) := by decide +kernel
theorem dX1_readNamed_32 : decode cX1_readNamed 32 = .ok (.aload_n 0, 1) := by decide +kernel
theorem dX1_readNamed_33 : decode cX1_readNamed 33 = .ok (.getfield 85, 3) := by decide +kernel
theorem dX1_readNamed_36 : decode cX1_readNamed 36 = .ok (.iconst (-1), 1) := by decide +kernel
theorem dX1_readNamed_37 : decode cX1_readNamed 37 = .ok (.if_icmp .ne 11, 3) := by decide +kernel
theorem dX1_readNamed_40 : decode cX1_readNamed 40 = .ok (.aload_n 0, 1) := by decide +kernel
theorem dX1_readNamed_41 : decode cX1_readNamed 41 = .ok (.getfield 12, 3) := by decide +kernel
theorem dX1_readNamed_44 : decode cX1_readNamed 44 = .ok (.invokevirtual 42, 3) := by decide +kernel
theorem dX1_readNamed_47 : decode cX1_readNamed 47 = .ok (.ireturn, 1) := by decide +kernel
theorem dX1_readNamed_48 : decode cX1_readNamed 48 = .ok (.aload_n 0, 1) := by decide +kernel
theorem dX1_readNamed_49 : decode cX1_readNamed 49 = .ok (.getfield 12, 3) := by decide +kernel
theorem dX1_readNamed_52 : decode cX1_readNamed 52 = .ok (.invokevirtual 79, 3) := by decide +kernel
theorem dX1_readNamed_55 : decode cX1_readNamed 55 = .ok (.iconst 1, 1) := by decide +kernel
theorem dX1_readNamed_56 : decode cX1_readNamed 56 = .ok (.ireturn, 1) := by decide +kernel
theorem dX2_init_0 : decode cX2_init 0 = .ok (.aload_n 0, 1) := by decide +kernel
theorem dX2_init_1 : decode cX2_init 1 = .ok (.invokespecial 3, 3) := by decide +kernel
theorem dX2_init_4 : decode cX2_init 4 = .ok (.aload_n 0, 1) := by decide +kernel
theorem dX2_init_5 : decode cX2_init 5 = .ok (.bipush 12, 2) := by decide +kernel
theorem dX2_init_7 : decode cX2_init 7 = .ok (.newarray .int, 2) := by decide +kernel
theorem dX2_init_9 : decode cX2_init 9 = .ok (.putfield 9, 3) := by decide +kernel
theorem dX2_init_12 : decode cX2_init 12 = .ok (.aload_n 0, 1) := by decide +kernel
theorem dX2_init_13 : decode cX2_init 13 = .ok (.bipush 12, 2) := by decide +kernel
theorem dX2_init_15 : decode cX2_init 15 = .ok (.newarray .int, 2) := by decide +kernel
theorem dX2_init_17 : decode cX2_init 17 = .ok (.putfield 15, 3) := by decide +kernel
theorem dX2_init_20 : decode cX2_init 20 = .ok (.aload_n 0, 1) := by decide +kernel
theorem dX2_init_21 : decode cX2_init 21 = .ok (.bipush 12, 2) := by decide +kernel
theorem dX2_init_23 : decode cX2_init 23 = .ok (.newarray .int, 2) := by decide +kernel
theorem dX2_init_25 : decode cX2_init 25 = .ok (.putfield 18, 3) := by decide +kernel
theorem dX2_init_28 : decode cX2_init 28 = .ok (.aload_n 0, 1) := by decide +kernel
theorem dX2_init_29 : decode cX2_init 29 = .ok (.sipush 400, 3) := by decide +kernel
theorem dX2_init_32 : decode cX2_init 32 = .ok (.newarray .int, 2) := by decide +kernel
theorem dX2_init_34 : decode cX2_init 34 = .ok (.putfield 21, 3) := by decide +kernel
theorem dX2_init_37 : decode cX2_init 37 = .ok (.aload_n 0, 1) := by decide +kernel
theorem dX2_init_38 : decode cX2_init 38 = .ok (.bipush 6, 2) := by decide +kernel
theorem dX2_init_40 : decode cX2_init 40 = .ok (.newarray .int, 2) := by decide +kernel
theorem dX2_init_42 : decode cX2_init 42 = .ok (.putfield 24, 3) := by decide +kernel
theorem dX2_init_45 : decode cX2_init 45 = .ok (.aload_n 0, 1) := by decide +kernel
theorem dX2_init_46 : decode cX2_init 46 = .ok (.iconst (-1), 1) := by decide +kernel
theorem dX2_init_47 : decode cX2_init 47 = .ok (.putfield 27, 3) := by decide +kernel
theorem dX2_init_50 : decode cX2_init 50 = .ok (.return_, 1) := by decide +kernel
theorem dX2_clear_0 : decode cX2_clear 0 = .ok (.aload_n 0, 1) := by decide +kernel
theorem dX2_clear_1 : decode cX2_clear 1 = .ok (.iconst 0, 1) := by decide +kernel
theorem dX2_clear_2 : decode cX2_clear 2 = .ok (.putfield 31, 3) := by decide +kernel
theorem dX2_clear_5 : decode cX2_clear 5 = .ok (.aload_n 0, 1) := by decide +kernel
theorem dX2_clear_6 : decode cX2_clear 6 = .ok (.iconst 0, 1) := by decide +kernel
theorem dX2_clear_7 : decode cX2_clear 7 = .ok (.putfield 27, 3) := by decide +kernel
theorem dX2_clear_10 : decode cX2_clear 10 = .ok (.return_, 1) := by decide +kernel
theorem dX2_copyFrom_0 : decode cX2_copyFrom 0 = .ok (.aload_n 1, 1) := by decide +kernel
theorem dX2_copyFrom_1 : decode cX2_copyFrom 1 = .ok (.getfield 9, 3) := by decide +kernel
theorem dX2_copyFrom_4 : decode cX2_copyFrom 4 = .ok (.iconst 0, 1) := by decide +kernel
theorem dX2_copyFrom_5 : decode cX2_copyFrom 5 = .ok (.aload_n 0, 1) := by decide +kernel
theorem dX2_copyFrom_6 : decode cX2_copyFrom 6 = .ok (.getfield 9, 3) := by decide +kernel
theorem dX2_copyFrom_9 : decode cX2_copyFrom 9 = .ok (.iconst 0, 1) := by decide +kernel
theorem dX2_copyFrom_10 : decode cX2_copyFrom 10 = .ok (.aload_n 0, 1) := by decide +kernel
theorem dX2_copyFrom_11 : decode cX2_copyFrom 11 = .ok (.getfield 9, 3) := by decide +kernel
theorem dX2_copyFrom_14 : decode cX2_copyFrom 14 = .ok (.arraylength, 1) := by decide +kernel
theorem dX2_copyFrom_15 : decode cX2_copyFrom 15 = .ok (.invokestatic 34, 3) := by decide +kernel
theorem dX2_copyFrom_18 : decode cX2_copyFrom 18 = .ok (.aload_n 1, 1) := by decide +kernel
theorem dX2_copyFrom_19 : decode cX2_copyFrom 19 = .ok (.getfield 15, 3) := by decide +kernel
theorem dX2_copyFrom_22 : decode cX2_copyFrom 22 = .ok (.iconst 0, 1) := by decide +kernel
theorem dX2_copyFrom_23 : decode cX2_copyFrom 23 = .ok (.aload_n 0, 1) := by decide +kernel
theorem dX2_copyFrom_24 : decode cX2_copyFrom 24 = .ok (.getfield 15, 3) := by decide +kernel
theorem dX2_copyFrom_27 : decode cX2_copyFrom 27 = .ok (.iconst 0, 1) := by decide +kernel
theorem dX2_copyFrom_28 : decode cX2_copyFrom 28 = .ok (.aload_n 0, 1) := by decide +kernel
theorem dX2_copyFrom_29 : decode cX2_copyFrom 29 = .ok (.getfield 15, 3) := by decide +kernel
theorem dX2_copyFrom_32 : decode cX2_copyFrom 32 = .ok (.arraylength, 1) := by decide +kernel
theorem dX2_copyFrom_33 : decode cX2_copyFrom 33 = .ok (.invokestatic 34, 3) := by decide +kernel
theorem dX2_copyFrom_36 : decode cX2_copyFrom 36 = .ok (.aload_n 1, 1) := by decide +kernel
theorem dX2_copyFrom_37 : decode cX2_copyFrom 37 = .ok (.getfield 18, 3) := by decide +kernel
theorem dX2_copyFrom_40 : decode cX2_copyFrom 40 = .ok (.iconst 0, 1) := by decide +kernel
theorem dX2_copyFrom_41 : decode cX2_copyFrom 41 = .ok (.aload_n 0, 1) := by decide +kernel
theorem dX2_copyFrom_42 : decode cX2_copyFrom 42 = .ok (.getfield 18, 3) := by decide +kernel
theorem dX2_copyFrom_45 : decode cX2_copyFrom 45 = .ok (.iconst 0, 1) := by decide +kernel
theorem dX2_copyFrom_46 : decode cX2_copyFrom 46 = .ok (.aload_n 0, 1) := by decide +kernel
theorem dX2_copyFrom_47 : decode cX2_copyFrom 47 = .ok (.getfield 18, 3) := by decide +kernel
theorem dX2_copyFrom_50 : decode cX2_copyFrom 50 = .ok (.arraylength, 1) := by decide +kernel
theorem dX2_copyFrom_51 : decode cX2_copyFrom 51 = .ok (.invokestatic 34, 3) := by decide +kernel
theorem dX2_copyFrom_54 : decode cX2_copyFrom 54 = .ok (.aload_n 1, 1) := by decide +kernel
theorem dX2_copyFrom_55 : decode cX2_copyFrom 55 = .ok (.getfield 21, 3) := by decide +kernel
theorem dX2_copyFrom_58 : decode cX2_copyFrom 58 = .ok (.iconst 0, 1) := by decide +kernel
theorem dX2_copyFrom_59 : decode cX2_copyFrom 59 = .ok (.aload_n 0, 1) := by decide +kernel
theorem dX2_copyFrom_60 : decode cX2_copyFrom 60 = .ok (.getfield 21, 3) := by decide +kernel
theorem dX2_copyFrom_63 : decode cX2_copyFrom 63 = .ok (.iconst 0, 1) := by decide +kernel
theorem dX2_copyFrom_64 : decode cX2_copyFrom 64 = .ok (.aload_n 0, 1) := by decide +kernel
theorem dX2_copyFrom_65 : decode cX2_copyFrom 65 = .ok (.getfield 21, 3) := by decide +kernel
theorem dX2_copyFrom_68 : decode cX2_copyFrom 68 = .ok (.arraylength, 1) := by decide +kernel
theorem dX2_copyFrom_69 : decode cX2_copyFrom 69 = .ok (.invokestatic 34, 3) := by decide +kernel
theorem dX2_copyFrom_72 : decode cX2_copyFrom 72 = .ok (.aload_n 0, 1) := by decide +kernel
theorem dX2_copyFrom_73 : decode cX2_copyFrom 73 = .ok (.aload_n 1, 1) := by decide +kernel
theorem dX2_copyFrom_74 : decode cX2_copyFrom 74 = .ok (.getfield 31, 3) := by decide +kernel
theorem dX2_copyFrom_77 : decode cX2_copyFrom 77 = .ok (.putfield 31, 3) := by decide +kernel
theorem dX2_copyFrom_80 : decode cX2_copyFrom 80 = .ok (.aload_n 0, 1) := by decide +kernel
theorem dX2_copyFrom_81 : decode cX2_copyFrom 81 = .ok (.aload_n 1, 1) := by decide +kernel
theorem dX2_copyFrom_82 : decode cX2_copyFrom 82 = .ok (.getfield 27, 3) := by decide +kernel
theorem dX2_copyFrom_85 : decode cX2_copyFrom 85 = .ok (.putfield 27, 3) := by decide +kernel
theorem dX2_copyFrom_88 : decode cX2_copyFrom 88 = .ok (.return_, 1) := by decide +kernel
theorem dX2_addOperation_0 : decode cX2_addOperation 0 = .ok (.aload_n 0, 1) := by decide +kernel
theorem dX2_addOperation_1 : decode cX2_addOperation 1 = .ok (.getfield 21, 3) := by decide +kernel
theorem dX2_addOperation_4 : decode cX2_addOperation 4 = .ok (.aload_n 0, 1) := by decide +kernel
theorem dX2_addOperation_5 : decode cX2_addOperation 5 = .ok (.getfield 31, 3) := by decide +kernel
theorem dX2_addOperation_8 : decode cX2_addOperation 8 = .ok (.iload_n 1, 1) := by decide +kernel
theorem dX2_addOperation_9 : decode cX2_addOperation 9 = .ok (.invokestatic 40, 3) := by decide +kernel
theorem dX2_addOperation_12 : decode cX2_addOperation 12 = .ok (.aload_n 0, 1) := by decide +kernel
theorem dX2_addOperation_13 : decode cX2_addOperation 13 = .ok (.dup, 1) := by decide +kernel
theorem dX2_addOperation_14 : decode cX2_addOperation 14 = .ok (.getfield 31, 3) := by decide +kernel
theorem dX2_addOperation_17 : decode cX2_addOperation 17 = .ok (.iconst 1, 1) := by decide +kernel
theorem dX2_addOperation_18 : decode cX2_addOperation 18 = .ok (.iadd, 1) := by decide +kernel
theorem dX2_addOperation_19 : decode cX2_addOperation 19 = .ok (.putfield 31, 3) := by decide +kernel
theorem dX2_addOperation_22 : decode cX2_addOperation 22 = .ok (.return_, 1) := by decide +kernel
theorem dX2_endLine_0 : decode cX2_endLine 0 = .ok (.aload_n 0, 1) := by decide +kernel
theorem dX2_endLine_1 : decode cX2_endLine 1 = .ok (.getfield 15, 3) := by decide +kernel
theorem dX2_endLine_4 : decode cX2_endLine 4 = .ok (.aload_n 0, 1) := by decide +kernel
theorem dX2_endLine_5 : decode cX2_endLine 5 = .ok (.getfield 27, 3) := by decide +kernel
theorem dX2_endLine_8 : decode cX2_endLine 8 = .ok (.iload_n 1, 1) := by decide +kernel
theorem dX2_endLine_9 : decode cX2_endLine 9 = .ok (.invokestatic 40, 3) := by decide +kernel
theorem dX2_endLine_12 : decode cX2_endLine 12 = .ok (.aload_n 0, 1) := by decide +kernel
theorem dX2_endLine_13 : decode cX2_endLine 13 = .ok (.getfield 9, 3) := by decide +kernel
theorem dX2_endLine_16 : decode cX2_endLine 16 = .ok (.aload_n 0, 1) := by decide +kernel
theorem dX2_endLine_17 : decode cX2_endLine 17 = .ok (.getfield 27, 3) := by decide +kernel
theorem dX2_endLine_20 : decode cX2_endLine 20 = .ok (.iload_n 2, 1) := by decide +kernel
theorem dX2_endLine_21 : decode cX2_endLine 21 = .ok (.invokestatic 40, 3) := by decide +kernel
theorem dX2_endLine_24 : decode cX2_endLine 24 = .ok (.aload_n 0, 1) := by decide +kernel
theorem dX2_endLine_25 : decode cX2_endLine 25 = .ok (.getfield 18, 3) := by decide +kernel
theorem dX2_endLine_28 : decode cX2_endLine 28 = .ok (.aload_n 0, 1) := by decide +kernel
theorem dX2_endLine_29 : decode cX2_endLine 29 = .ok (.getfield 27, 3) := by decide +kernel
theorem dX2_endLine_32 : decode cX2_endLine 32 = .ok (.aload_n 0, 1) := by decide +kernel
theorem dX2_endLine_33 : decode cX2_endLine 33 = .ok (.getfield 31, 3) := by decide +kernel
theorem dX2_endLine_36 : decode cX2_endLine 36 = .ok (.invokestatic 40, 3) := by decide +kernel
theorem dX2_endLine_39 : decode cX2_endLine 39 = .ok (.aload_n 0, 1) := by decide +kernel
theorem dX2_endLine_40 : decode cX2_endLine 40 = .ok (.dup, 1) := by decide +kernel
theorem dX2_endLine_41 : decode cX2_endLine 41 = .ok (.getfield 27, 3) := by decide +kernel
theorem dX2_endLine_44 : decode cX2_endLine 44 = .ok (.iconst 1, 1) := by decide +kernel
theorem dX2_endLine_45 : decode cX2_endLine 45 = .ok (.iadd, 1) := by decide +kernel
theorem dX2_endLine_46 : decode cX2_endLine 46 = .ok (.putfield 27, 3) := by decide +kernel
theorem dX2_endLine_49 : decode cX2_endLine 49 = .ok (.return_, 1) := by decide +kernel
theorem dX2_weighs_0 : decode cX2_weighs 0 = .ok (.aload_n 0, 1) := by decide +kernel
theorem dX2_weighs_1 : decode cX2_weighs 1 = .ok (.getfield 27, 3) := by decide +kernel
theorem dX2_weighs_4 : decode cX2_weighs 4 = .ok (.iconst (-1), 1) := by decide +kernel
theorem dX2_weighs_5 : decode cX2_weighs 5 = .ok (.if_icmp .ne 10, 3) := by decide +kernel
theorem dX2_weighs_8 : decode cX2_weighs 8 = .ok (.aload_n 1, 1) := by decide +kernel
theorem dX2_weighs_9 : decode cX2_weighs 9 = .ok (.iload_n 3, 1) := by decide +kernel
theorem dX2_weighs_10 : decode cX2_weighs 10 = .ok (.iconst 1, 1) := by decide +kernel
theorem dX2_weighs_11 : decode cX2_weighs 11 = .ok (.invokevirtual 44, 3) := by decide +kernel
theorem dX2_weighs_14 : decode cX2_weighs 14 = .ok (.ireturn, 1) := by decide +kernel
theorem dX2_weighs_15 : decode cX2_weighs 15 = .ok (.aload_n 0, 1) := by decide +kernel
theorem dX2_weighs_16 : decode cX2_weighs 16 = .ok (.getfield 24, 3) := by decide +kernel
theorem dX2_weighs_19 : decode cX2_weighs 19 = .ok (.iconst 0, 1) := by decide +kernel
theorem dX2_weighs_20 : decode cX2_weighs 20 = .ok (.aload_n 1, 1) := by decide +kernel
theorem dX2_weighs_21 : decode cX2_weighs 21 = .ok (.iload_n 3, 1) := by decide +kernel
theorem dX2_weighs_22 : decode cX2_weighs 22 = .ok (.iconst 0, 1) := by decide +kernel
theorem dX2_weighs_23 : decode cX2_weighs 23 = .ok (.invokevirtual 44, 3) := by decide +kernel
theorem dX2_weighs_26 : decode cX2_weighs 26 = .ok (.invokestatic 40, 3) := by decide +kernel
theorem dX2_weighs_29 : decode cX2_weighs 29 = .ok (.aload_n 0, 1) := by decide +kernel
theorem dX2_weighs_30 : decode cX2_weighs 30 = .ok (.getfield 24, 3) := by decide +kernel
theorem dX2_weighs_33 : decode cX2_weighs 33 = .ok (.iconst 1, 1) := by decide +kernel
theorem dX2_weighs_34 : decode cX2_weighs 34 = .ok (.aload_n 1, 1) := by decide +kernel
theorem dX2_weighs_35 : decode cX2_weighs 35 = .ok (.iload_n 3, 1) := by decide +kernel
theorem dX2_weighs_36 : decode cX2_weighs 36 = .ok (.iconst 1, 1) := by decide +kernel
theorem dX2_weighs_37 : decode cX2_weighs 37 = .ok (.invokevirtual 44, 3) := by decide +kernel
theorem dX2_weighs_40 : decode cX2_weighs 40 = .ok (.invokestatic 40, 3) := by decide +kernel
theorem dX2_weighs_43 : decode cX2_weighs 43 = .ok (.aload_n 0, 1) := by decide +kernel
theorem dX2_weighs_44 : decode cX2_weighs 44 = .ok (.getfield 24, 3) := by decide +kernel
theorem dX2_weighs_47 : decode cX2_weighs 47 = .ok (.iconst 2, 1) := by decide +kernel
theorem dX2_weighs_48 : decode cX2_weighs 48 = .ok (.aload_n 1, 1) := by decide +kernel
theorem dX2_weighs_49 : decode cX2_weighs 49 = .ok (.iload_n 3, 1) := by decide +kernel
theorem dX2_weighs_50 : decode cX2_weighs 50 = .ok (.iconst 2, 1) := by decide +kernel
theorem dX2_weighs_51 : decode cX2_weighs 51 = .ok (.invokevirtual 44, 3) := by decide +kernel
theorem dX2_weighs_54 : decode cX2_weighs 54 = .ok (.invokestatic 40, 3) := by decide +kernel
theorem dX2_weighs_57 : decode cX2_weighs 57 = .ok (.aload_n 0, 1) := by decide +kernel
theorem dX2_weighs_58 : decode cX2_weighs 58 = .ok (.getfield 24, 3) := by decide +kernel
theorem dX2_weighs_61 : decode cX2_weighs 61 = .ok (.iconst 3, 1) := by decide +kernel
theorem dX2_weighs_62 : decode cX2_weighs 62 = .ok (.aload_n 1, 1) := by decide +kernel
theorem dX2_weighs_63 : decode cX2_weighs 63 = .ok (.iload_n 2, 1) := by decide +kernel
theorem dX2_weighs_64 : decode cX2_weighs 64 = .ok (.iconst 0, 1) := by decide +kernel
theorem dX2_weighs_65 : decode cX2_weighs 65 = .ok (.invokevirtual 50, 3) := by decide +kernel
theorem dX2_weighs_68 : decode cX2_weighs 68 = .ok (.invokestatic 40, 3) := by decide +kernel
theorem dX2_weighs_71 : decode cX2_weighs 71 = .ok (.aload_n 0, 1) := by decide +kernel
theorem dX2_weighs_72 : decode cX2_weighs 72 = .ok (.getfield 24, 3) := by decide +kernel
theorem dX2_weighs_75 : decode cX2_weighs 75 = .ok (.iconst 4, 1) := by decide +kernel
theorem dX2_weighs_76 : decode cX2_weighs 76 = .ok (.aload_n 1, 1) := by decide +kernel
theorem dX2_weighs_77 : decode cX2_weighs 77 = .ok (.iload_n 2, 1) := by decide +kernel
theorem dX2_weighs_78 : decode cX2_weighs 78 = .ok (.iconst 4, 1) := by decide +kernel
theorem dX2_weighs_79 : decode cX2_weighs 79 = .ok (.invokevirtual 50, 3) := by decide +kernel
theorem dX2_weighs_82 : decode cX2_weighs 82 = .ok (.invokestatic 40, 3) := by decide +kernel
theorem dX2_weighs_85 : decode cX2_weighs 85 = .ok (.aload_n 0, 1) := by decide +kernel
theorem dX2_weighs_86 : decode cX2_weighs 86 = .ok (.getfield 24, 3) := by decide +kernel
theorem dX2_weighs_89 : decode cX2_weighs 89 = .ok (.iconst 5, 1) := by decide +kernel
theorem dX2_weighs_90 : decode cX2_weighs 90 = .ok (.aload_n 1, 1) := by decide +kernel
theorem dX2_weighs_91 : decode cX2_weighs 91 = .ok (.getfield 53, 3) := by decide +kernel
theorem dX2_weighs_94 : decode cX2_weighs 94 = .ok (.invokestatic 40, 3) := by decide +kernel
theorem dX2_weighs_97 : decode cX2_weighs 97 = .ok (.aload_n 1, 1) := by decide +kernel
theorem dX2_weighs_98 : decode cX2_weighs 98 = .ok (.iload_n 3, 1) := by decide +kernel
theorem dX2_weighs_99 : decode cX2_weighs 99 = .ok (.iconst 4, 1) := by decide +kernel
theorem dX2_weighs_100 : decode cX2_weighs 100 = .ok (.invokevirtual 44, 3) := by decide +kernel
theorem dX2_weighs_103 : decode cX2_weighs 103 = .ok (.istore 4, 2) := by decide +kernel
theorem dX2_weighs_105 : decode cX2_weighs 105 = .ok (.iconst 0, 1) := by decide +kernel
theorem dX2_weighs_106 : decode cX2_weighs 106 = .ok (.istore 5, 2) := by decide +kernel
theorem dX2_weighs_108 : decode cX2_weighs 108 = .ok (.iconst 0, 1) := by decide +kernel
theorem dX2_weighs_109 : decode cX2_weighs 109 = .ok (.istore 6, 2) := by decide +kernel
theorem dX2_weighs_111 : decode cX2_weighs 111 = .ok (.iconst 0, 1) := by decide +kernel
theorem dX2_weighs_112 : decode cX2_weighs 112 = .ok (.istore 7, 2) := by decide +kernel
theorem dX2_weighs_114 : decode cX2_weighs 114 = .ok (.iload 7, 2) := by decide +kernel
theorem dX2_weighs_116 : decode cX2_weighs 116 = .ok (.aload_n 0, 1) := by decide +kernel
theorem dX2_weighs_117 : decode cX2_weighs 117 = .ok (.getfield 27, 3) := by decide +kernel
theorem dX2_weighs_120 : decode cX2_weighs 120 = .ok (.if_icmp .ge 74, 3) := by decide +kernel
theorem dX2_weighs_123 : decode cX2_weighs 123 = .ok (.aload_n 0, 1) := by decide +kernel
theorem dX2_weighs_124 : decode cX2_weighs 124 = .ok (.getfield 15, 3) := by decide +kernel
theorem dX2_weighs_127 : decode cX2_weighs 127 = .ok (.iload 7, 2) := by decide +kernel
theorem dX2_weighs_129 : decode cX2_weighs 129 = .ok (.invokestatic 56, 3) := by decide +kernel
theorem dX2_weighs_132 : decode cX2_weighs 132 = .ok (.istore 8, 2) := by decide +kernel
theorem dX2_weighs_134 : decode cX2_weighs 134 = .ok (.aload_n 0, 1) := by decide +kernel
theorem dX2_weighs_135 : decode cX2_weighs 135 = .ok (.getfield 18, 3) := by decide +kernel
theorem dX2_weighs_138 : decode cX2_weighs 138 = .ok (.iload 7, 2) := by decide +kernel
theorem dX2_weighs_140 : decode cX2_weighs 140 = .ok (.invokestatic 56, 3) := by decide +kernel
theorem dX2_weighs_143 : decode cX2_weighs 143 = .ok (.istore 9, 2) := by decide +kernel
theorem dX2_weighs_145 : decode cX2_weighs 145 = .ok (.iload 8, 2) := by decide +kernel
theorem dX2_weighs_147 : decode cX2_weighs 147 = .ok (.iconst (-1), 1) := by decide +kernel
theorem dX2_weighs_148 : decode cX2_weighs 148 = .ok (.if_icmp .eq 9, 3) := by decide +kernel
theorem dX2_weighs_151 : decode cX2_weighs 151 = .ok (.iload 8, 2) := by decide +kernel
theorem dX2_weighs_153 : decode cX2_weighs 153 = .ok (.iload_n 2, 1) := by decide +kernel
theorem dX2_weighs_154 : decode cX2_weighs 154 = .ok (.if_icmp .ne 30, 3) := by decide +kernel
theorem dX2_weighs_157 : decode cX2_weighs 157 = .ok (.aload_n 0, 1) := by decide +kernel
theorem dX2_weighs_158 : decode cX2_weighs 158 = .ok (.iload 4, 2) := by decide +kernel
theorem dX2_weighs_160 : decode cX2_weighs 160 = .ok (.iload 6, 2) := by decide +kernel
theorem dX2_weighs_162 : decode cX2_weighs 162 = .ok (.iload 9, 2) := by decide +kernel
theorem dX2_weighs_164 : decode cX2_weighs 164 = .ok (.invokevirtual 60, 3) := by decide +kernel
theorem dX2_weighs_167 : decode cX2_weighs 167 = .ok (.ifCond .eq 17, 3) := by decide +kernel
theorem dX2_weighs_170 : decode cX2_weighs 170 = .ok (.iload 5, 2) := by decide +kernel
theorem dX2_weighs_172 : decode cX2_weighs 172 = .ok (.aload_n 0, 1) := by decide +kernel
theorem dX2_weighs_173 : decode cX2_weighs 173 = .ok (.getfield 9, 3) := by decide +kernel
theorem dX2_weighs_176 : decode cX2_weighs 176 = .ok (.iload 7, 2) := by decide +kernel
theorem dX2_weighs_178 : decode cX2_weighs 178 = .ok (.invokestatic 56, 3) := by decide +kernel
theorem dX2_weighs_181 : decode cX2_weighs 181 = .ok (.iadd, 1) := by decide +kernel
theorem dX2_weighs_182 : decode cX2_weighs 182 = .ok (.istore 5, 2) := by decide +kernel
theorem dX2_weighs_184 : decode cX2_weighs 184 = .ok (.iload 9, 2) := by decide +kernel
theorem dX2_weighs_186 : decode cX2_weighs 186 = .ok (.istore 6, 2) := by decide +kernel
theorem dX2_weighs_188 : decode cX2_weighs 188 = .ok (.iinc 7 1, 3) := by decide +kernel
theorem dX2_weighs_191 : decode cX2_weighs 191 = .ok (.goto (-77), 3) := by decide +kernel
theorem dX2_weighs_194 : decode cX2_weighs 194 = .ok (.iload 5, 2) := by decide +kernel
theorem dX2_weighs_196 : decode cX2_weighs 196 = .ok (.iconst 0, 1) := by decide +kernel
theorem dX2_weighs_197 : decode cX2_weighs 197 = .ok (.invokestatic 64, 3) := by decide +kernel
theorem dX2_weighs_200 : decode cX2_weighs 200 = .ok (.ireturn, 1) := by decide +kernel
theorem dX2_holds_0 : decode cX2_holds 0 = .ok (.iload_n 2, 1) := by decide +kernel
theorem dX2_holds_1 : decode cX2_holds 1 = .ok (.iload_n 3, 1) := by decide +kernel
theorem dX2_holds_2 : decode cX2_holds 2 = .ok (.if_icmp .ge 7, 3) := by decide +kernel
theorem dX2_holds_5 : decode cX2_holds 5 = .ok (.iconst 0, 1) := by decide +kernel
theorem dX2_holds_6 : decode cX2_holds 6 = .ok (.goto 4, 3) := by decide +kernel
theorem dX2_holds_9 : decode cX2_holds 9 = .ok (.iconst 1, 1) := by decide +kernel
theorem dX2_holds_10 : decode cX2_holds 10 = .ok (.istore 4, 2) := by decide +kernel
theorem dX2_holds_12 : decode cX2_holds 12 = .ok (.iconst 0, 1) := by decide +kernel
theorem dX2_holds_13 : decode cX2_holds 13 = .ok (.istore 5, 2) := by decide +kernel
theorem dX2_holds_15 : decode cX2_holds 15 = .ok (.iconst 0, 1) := by decide +kernel
theorem dX2_holds_16 : decode cX2_holds 16 = .ok (.istore 6, 2) := by decide +kernel
theorem dX2_holds_18 : decode cX2_holds 18 = .ok (.iload_n 2, 1) := by decide +kernel
theorem dX2_holds_19 : decode cX2_holds 19 = .ok (.istore 7, 2) := by decide +kernel
theorem dX2_holds_21 : decode cX2_holds 21 = .ok (.iload 7, 2) := by decide +kernel
theorem dX2_holds_23 : decode cX2_holds 23 = .ok (.iload_n 3, 1) := by decide +kernel
theorem dX2_holds_24 : decode cX2_holds 24 = .ok (.if_icmp .ge 193, 3) := by decide +kernel
theorem dX2_holds_27 : decode cX2_holds 27 = .ok (.aload_n 0, 1) := by decide +kernel
theorem dX2_holds_28 : decode cX2_holds 28 = .ok (.getfield 21, 3) := by decide +kernel
theorem dX2_holds_31 : decode cX2_holds 31 = .ok (.iload 7, 2) := by decide +kernel
theorem dX2_holds_33 : decode cX2_holds 33 = .ok (.invokestatic 56, 3) := by decide +kernel
theorem dX2_holds_36 : decode cX2_holds 36 = .ok (.istore 8, 2) := by decide +kernel
theorem dX2_holds_38 : decode cX2_holds 38 = .ok (.iload 8, 2) := by decide +kernel
theorem dX2_holds_40 : decode cX2_holds 40 = .ok (.sipush 1010, 3) := by decide +kernel
theorem dX2_holds_43 : decode cX2_holds 43 = .ok (.if_icmp .ge 37, 3) := by decide +kernel
theorem dX2_holds_46 : decode cX2_holds 46 = .ok (.iload 5, 2) := by decide +kernel
theorem dX2_holds_48 : decode cX2_holds 48 = .ok (.iload 8, 2) := by decide +kernel
theorem dX2_holds_50 : decode cX2_holds 50 = .ok (.sipush 1000, 3) := by decide +kernel
theorem dX2_holds_53 : decode cX2_holds 53 = .ok (.if_icmp .ge 8, 3) := by decide +kernel
theorem dX2_holds_56 : decode cX2_holds 56 = .ok (.iload 8, 2) := by decide +kernel
theorem dX2_holds_58 : decode cX2_holds 58 = .ok (.goto 16, 3) := by decide +kernel
theorem dX2_holds_61 : decode cX2_holds 61 = .ok (.aload_n 0, 1) := by decide +kernel
theorem dX2_holds_62 : decode cX2_holds 62 = .ok (.getfield 24, 3) := by decide +kernel
theorem dX2_holds_65 : decode cX2_holds 65 = .ok (.iload 8, 2) := by decide +kernel
theorem dX2_holds_67 : decode cX2_holds 67 = .ok (.sipush 1000, 3) := by decide +kernel
theorem dX2_holds_70 : decode cX2_holds 70 = .ok (.isub, 1) := by decide +kernel
theorem dX2_holds_71 : decode cX2_holds 71 = .ok (.invokestatic 56, 3) := by decide +kernel
theorem dX2_holds_74 : decode cX2_holds 74 = .ok (.iadd, 1) := by decide +kernel
theorem dX2_holds_75 : decode cX2_holds 75 = .ok (.istore 5, 2) := by decide +kernel
theorem dX2_holds_77 : decode cX2_holds 77 = .ok (.goto 134, 3) := by decide +kernel
theorem dX2_holds_80 : decode cX2_holds 80 = .ok (.iload 8, 2) := by decide +kernel
theorem dX2_holds_82 : decode cX2_holds 82 = .ok (.sipush 1020, 3) := by decide +kernel
theorem dX2_holds_85 : decode cX2_holds 85 = .ok (.if_icmp .ne 13, 3) := by decide +kernel
theorem dX2_holds_88 : decode cX2_holds 88 = .ok (.iload 5, 2) := by decide +kernel
theorem dX2_holds_90 : decode cX2_holds 90 = .ok (.istore 6, 2) := by decide +kernel
theorem dX2_holds_92 : decode cX2_holds 92 = .ok (.iconst 0, 1) := by decide +kernel
theorem dX2_holds_93 : decode cX2_holds 93 = .ok (.istore 5, 2) := by decide +kernel
theorem dX2_holds_95 : decode cX2_holds 95 = .ok (.goto 116, 3) := by decide +kernel
theorem dX2_holds_98 : decode cX2_holds 98 = .ok (.iload 8, 2) := by decide +kernel
theorem dX2_holds_100 : decode cX2_holds 100 = .ok (.sipush 1021, 3) := by decide +kernel
theorem dX2_holds_103 : decode cX2_holds 103 = .ok (.if_icmp .eq 11, 3) := by decide +kernel
theorem dX2_holds_106 : decode cX2_holds 106 = .ok (.iload 8, 2) := by decide +kernel
theorem dX2_holds_108 : decode cX2_holds 108 = .ok (.sipush 1022, 3) := by decide +kernel
theorem dX2_holds_111 : decode cX2_holds 111 = .ok (.if_icmp .ne 63, 3) := by decide +kernel
theorem dX2_holds_114 : decode cX2_holds 114 = .ok (.iload 8, 2) := by decide +kernel
theorem dX2_holds_116 : decode cX2_holds 116 = .ok (.sipush 1021, 3) := by decide +kernel
theorem dX2_holds_119 : decode cX2_holds 119 = .ok (.if_icmp .ne 18, 3) := by decide +kernel
theorem dX2_holds_122 : decode cX2_holds 122 = .ok (.iload 6, 2) := by decide +kernel
theorem dX2_holds_124 : decode cX2_holds 124 = .ok (.iload 5, 2) := by decide +kernel
theorem dX2_holds_126 : decode cX2_holds 126 = .ok (.if_icmp .ge 7, 3) := by decide +kernel
theorem dX2_holds_129 : decode cX2_holds 129 = .ok (.iconst 1, 1) := by decide +kernel
theorem dX2_holds_130 : decode cX2_holds 130 = .ok (.goto 19, 3) := by decide +kernel
theorem dX2_holds_133 : decode cX2_holds 133 = .ok (.iconst 0, 1) := by decide +kernel
theorem dX2_holds_134 : decode cX2_holds 134 = .ok (.goto 15, 3) := by decide +kernel
theorem dX2_holds_137 : decode cX2_holds 137 = .ok (.iload 6, 2) := by decide +kernel
theorem dX2_holds_139 : decode cX2_holds 139 = .ok (.iload 5, 2) := by decide +kernel
theorem dX2_holds_141 : decode cX2_holds 141 = .ok (.if_icmp .le 7, 3) := by decide +kernel
theorem dX2_holds_144 : decode cX2_holds 144 = .ok (.iconst 1, 1) := by decide +kernel
theorem dX2_holds_145 : decode cX2_holds 145 = .ok (.goto 4, 3) := by decide +kernel
theorem dX2_holds_148 : decode cX2_holds 148 = .ok (.iconst 0, 1) := by decide +kernel
theorem dX2_holds_149 : decode cX2_holds 149 = .ok (.istore 9, 2) := by decide +kernel
theorem dX2_holds_151 : decode cX2_holds 151 = .ok (.iload 4, 2) := by decide +kernel
theorem dX2_holds_153 : decode cX2_holds 153 = .ok (.iconst 1, 1) := by decide +kernel
theorem dX2_holds_154 : decode cX2_holds 154 = .ok (.ishl, 1) := by decide +kernel
theorem dX2_holds_155 : decode cX2_holds 155 = .ok (.iload 9, 2) := by decide +kernel
theorem dX2_holds_157 : decode cX2_holds 157 = .ok (.ifCond .eq 7, 3) := by decide +kernel
theorem dX2_holds_160 : decode cX2_holds 160 = .ok (.iconst 1, 1) := by decide +kernel
theorem dX2_holds_161 : decode cX2_holds 161 = .ok (.goto 4, 3) := by decide +kernel
theorem dX2_holds_164 : decode cX2_holds 164 = .ok (.iconst 0, 1) := by decide +kernel
theorem dX2_holds_165 : decode cX2_holds 165 = .ok (.ior, 1) := by decide +kernel
theorem dX2_holds_166 : decode cX2_holds 166 = .ok (.istore 4, 2) := by decide +kernel
theorem dX2_holds_168 : decode cX2_holds 168 = .ok (.iconst 0, 1) := by decide +kernel
theorem dX2_holds_169 : decode cX2_holds 169 = .ok (.istore 5, 2) := by decide +kernel
theorem dX2_holds_171 : decode cX2_holds 171 = .ok (.goto 40, 3) := by decide +kernel
theorem dX2_holds_174 : decode cX2_holds 174 = .ok (.iload 8, 2) := by decide +kernel
theorem dX2_holds_176 : decode cX2_holds 176 = .ok (.sipush 1023, 3) := by decide +kernel
theorem dX2_holds_179 : decode cX2_holds 179 = .ok (.if_icmp .lt 15, 3) := by decide +kernel
theorem dX2_holds_182 : decode cX2_holds 182 = .ok (.iload 8, 2) := by decide +kernel
theorem dX2_holds_184 : decode cX2_holds 184 = .ok (.iload 4, 2) := by decide +kernel
theorem dX2_holds_186 : decode cX2_holds 186 = .ok (.invokestatic 69, 3) := by decide +kernel
theorem dX2_holds_189 : decode cX2_holds 189 = .ok (.istore 4, 2) := by decide +kernel
theorem dX2_holds_191 : decode cX2_holds 191 = .ok (.goto 20, 3) := by decide +kernel
theorem dX2_holds_194 : decode cX2_holds 194 = .ok (.iload 4, 2) := by decide +kernel
theorem dX2_holds_196 : decode cX2_holds 196 = .ok (.iconst 1, 1) := by decide +kernel
theorem dX2_holds_197 : decode cX2_holds 197 = .ok (.ishl, 1) := by decide +kernel
theorem dX2_holds_198 : decode cX2_holds 198 = .ok (.iload_n 1, 1) := by decide +kernel
theorem dX2_holds_199 : decode cX2_holds 199 = .ok (.iload 8, 2) := by decide +kernel
theorem dX2_holds_201 : decode cX2_holds 201 = .ok (.sipush 1010, 3) := by decide +kernel
theorem dX2_holds_204 : decode cX2_holds 204 = .ok (.isub, 1) := by decide +kernel
theorem dX2_holds_205 : decode cX2_holds 205 = .ok (.ishr, 1) := by decide +kernel
theorem dX2_holds_206 : decode cX2_holds 206 = .ok (.iconst 1, 1) := by decide +kernel
theorem dX2_holds_207 : decode cX2_holds 207 = .ok (.iand, 1) := by decide +kernel
theorem dX2_holds_208 : decode cX2_holds 208 = .ok (.ior, 1) := by decide +kernel
theorem dX2_holds_209 : decode cX2_holds 209 = .ok (.istore 4, 2) := by decide +kernel
theorem dX2_holds_211 : decode cX2_holds 211 = .ok (.iinc 7 1, 3) := by decide +kernel
theorem dX2_holds_214 : decode cX2_holds 214 = .ok (.goto (-193), 3) := by decide +kernel
theorem dX2_holds_217 : decode cX2_holds 217 = .ok (.iload 4, 2) := by decide +kernel
theorem dX2_holds_219 : decode cX2_holds 219 = .ok (.iconst 1, 1) := by decide +kernel
theorem dX2_holds_220 : decode cX2_holds 220 = .ok (.iand, 1) := by decide +kernel
theorem dX2_holds_221 : decode cX2_holds 221 = .ok (.iconst 1, 1) := by decide +kernel
theorem dX2_holds_222 : decode cX2_holds 222 = .ok (.if_icmp .ne 7, 3) := by decide +kernel
theorem dX2_holds_225 : decode cX2_holds 225 = .ok (.iconst 1, 1) := by decide +kernel
theorem dX2_holds_226 : decode cX2_holds 226 = .ok (.goto 4, 3) := by decide +kernel
theorem dX2_holds_229 : decode cX2_holds 229 = .ok (.iconst 0, 1) := by decide +kernel
theorem dX2_holds_230 : decode cX2_holds 230 = .ok (.ireturn, 1) := by decide +kernel
theorem dX2_joined_0 : decode cX2_joined 0 = .ok (.iload_n 0, 1) := by decide +kernel
theorem dX2_joined_1 : decode cX2_joined 1 = .ok (.sipush 1023, 3) := by decide +kernel
theorem dX2_joined_4 : decode cX2_joined 4 = .ok (.if_icmp .ne 7, 3) := by decide +kernel
theorem dX2_joined_7 : decode cX2_joined 7 = .ok (.iload_n 1, 1) := by decide +kernel
theorem dX2_joined_8 : decode cX2_joined 8 = .ok (.iconst 1, 1) := by decide +kernel
theorem dX2_joined_9 : decode cX2_joined 9 = .ok (.ixor, 1) := by decide +kernel
theorem dX2_joined_10 : decode cX2_joined 10 = .ok (.ireturn, 1) := by decide +kernel
theorem dX2_joined_11 : decode cX2_joined 11 = .ok (.iload_n 1, 1) := by decide +kernel
theorem dX2_joined_12 : decode cX2_joined 12 = .ok (.iconst 1, 1) := by decide +kernel
theorem dX2_joined_13 : decode cX2_joined 13 = .ok (.iand, 1) := by decide +kernel
theorem dX2_joined_14 : decode cX2_joined 14 = .ok (.istore_n 2, 1) := by decide +kernel
theorem dX2_joined_15 : decode cX2_joined 15 = .ok (.iload_n 1, 1) := by decide +kernel
theorem dX2_joined_16 : decode cX2_joined 16 = .ok (.iconst 1, 1) := by decide +kernel
theorem dX2_joined_17 : decode cX2_joined 17 = .ok (.ishr, 1) := by decide +kernel
theorem dX2_joined_18 : decode cX2_joined 18 = .ok (.istore_n 3, 1) := by decide +kernel
theorem dX2_joined_19 : decode cX2_joined 19 = .ok (.iload_n 0, 1) := by decide +kernel
theorem dX2_joined_20 : decode cX2_joined 20 = .ok (.sipush 1025, 3) := by decide +kernel
theorem dX2_joined_23 : decode cX2_joined 23 = .ok (.if_icmp .ne 9, 3) := by decide +kernel
theorem dX2_joined_26 : decode cX2_joined 26 = .ok (.iload_n 3, 1) := by decide +kernel
theorem dX2_joined_27 : decode cX2_joined 27 = .ok (.iload_n 2, 1) := by decide +kernel
theorem dX2_joined_28 : decode cX2_joined 28 = .ok (.ior, 1) := by decide +kernel
theorem dX2_joined_29 : decode cX2_joined 29 = .ok (.goto 9, 3) := by decide +kernel
theorem dX2_joined_32 : decode cX2_joined 32 = .ok (.iload_n 3, 1) := by decide +kernel
theorem dX2_joined_33 : decode cX2_joined 33 = .ok (.iload_n 2, 1) := by decide +kernel
theorem dX2_joined_34 : decode cX2_joined 34 = .ok (.bipush (-2), 2) := by decide +kernel
theorem dX2_joined_36 : decode cX2_joined 36 = .ok (.ior, 1) := by decide +kernel
theorem dX2_joined_37 : decode cX2_joined 37 = .ok (.iand, 1) := by decide +kernel
theorem dX2_joined_38 : decode cX2_joined 38 = .ok (.ireturn, 1) := by decide +kernel
theorem dX3_init_0 : decode cX3_init 0 = .ok (.aload_n 0, 1) := by decide +kernel
theorem dX3_init_1 : decode cX3_init 1 = .ok (.invokespecial 5, 3) := by decide +kernel
theorem dX3_init_4 : decode cX3_init 4 = .ok (.aload_n 0, 1) := by decide +kernel
theorem dX3_init_5 : decode cX3_init 5 = .ok (.new 11, 3) := by decide +kernel
theorem dX3_init_8 : decode cX3_init 8 = .ok (.dup, 1) := by decide +kernel
theorem dX3_init_9 : decode cX3_init 9 = .ok (.invokespecial 13, 3) := by decide +kernel
theorem dX3_init_12 : decode cX3_init 12 = .ok (.putfield 14, 3) := by decide +kernel
theorem dX3_init_15 : decode cX3_init 15 = .ok (.aload_n 0, 1) := by decide +kernel
theorem dX3_init_16 : decode cX3_init 16 = .ok (.bipush 21, 2) := by decide +kernel
theorem dX3_init_18 : decode cX3_init 18 = .ok (.newarray .int, 2) := by decide +kernel
theorem dX3_init_20 : decode cX3_init 20 = .ok (.putfield 20, 3) := by decide +kernel
theorem dX3_init_23 : decode cX3_init 23 = .ok (.return_, 1) := by decide +kernel
theorem dX3_readInto_0 : decode cX3_readInto 0 = .ok (.aload_n 1, 1) := by decide +kernel
theorem dX3_readInto_1 : decode cX3_readInto 1 = .ok (.invokevirtual 24, 3) := by decide +kernel
theorem dX3_readInto_4 : decode cX3_readInto 4 = .ok (.aload_n 0, 1) := by decide +kernel
theorem dX3_readInto_5 : decode cX3_readInto 5 = .ok (.getfield 14, 3) := by decide +kernel
theorem dX3_readInto_8 : decode cX3_readInto 8 = .ok (.aload_n 2, 1) := by decide +kernel
theorem dX3_readInto_9 : decode cX3_readInto 9 = .ok (.iload_n 3, 1) := by decide +kernel
theorem dX3_readInto_10 : decode cX3_readInto 10 = .ok (.invokevirtual 27, 3) := by decide +kernel
theorem dX3_readInto_13 : decode cX3_readInto 13 = .ok (.aload_n 0, 1) := by decide +kernel
theorem dX3_readInto_14 : decode cX3_readInto 14 = .ok (.getfield 14, 3) := by decide +kernel
theorem dX3_readInto_17 : decode cX3_readInto 17 = .ok (.getfield 30, 3) := by decide +kernel
theorem dX3_readInto_20 : decode cX3_readInto 20 = .ok (.getstatic 34, 3) := by decide +kernel
theorem dX3_readInto_23 : decode cX3_readInto 23 = .ok (.if_acmp .ne 5, 3) := by decide +kernel
theorem dX3_readInto_26 : decode cX3_readInto 26 = .ok (.iconst 1, 1) := by decide +kernel
theorem dX3_readInto_27 : decode cX3_readInto 27 = .ok (.ireturn, 1) := by decide +kernel
theorem dX3_readInto_28 : decode cX3_readInto 28 = .ok (.iconst 0, 1) := by decide +kernel
theorem dX3_readInto_29 : decode cX3_readInto 29 = .ok (.istore 4, 2) := by decide +kernel
theorem dX3_readInto_31 : decode cX3_readInto 31 = .ok (.iload 4, 2) := by decide +kernel
theorem dX3_readInto_33 : decode cX3_readInto 33 = .ok (.bipush 12, 2) := by decide +kernel
theorem dX3_readInto_35 : decode cX3_readInto 35 = .ok (.if_icmp .ge 55, 3) := by decide +kernel
theorem dX3_readInto_38 : decode cX3_readInto 38 = .ok (.aload_n 0, 1) := by decide +kernel
theorem dX3_readInto_39 : decode cX3_readInto 39 = .ok (.aload_n 1, 1) := by decide +kernel
theorem dX3_readInto_40 : decode cX3_readInto 40 = .ok (.invokevirtual 39, 3) := by decide +kernel
theorem dX3_readInto_43 : decode cX3_readInto 43 = .ok (.ifCond .ne 5, 3) := by decide +kernel
theorem dX3_readInto_46 : decode cX3_readInto 46 = .ok (.iconst 0, 1) := by decide +kernel
theorem dX3_readInto_47 : decode cX3_readInto 47 = .ok (.ireturn, 1) := by decide +kernel
theorem dX3_readInto_48 : decode cX3_readInto 48 = .ok (.aload_n 0, 1) := by decide +kernel
theorem dX3_readInto_49 : decode cX3_readInto 49 = .ok (.getfield 14, 3) := by decide +kernel
theorem dX3_readInto_52 : decode cX3_readInto 52 = .ok (.getfield 30, 3) := by decide +kernel
theorem dX3_readInto_55 : decode cX3_readInto 55 = .ok (.getstatic 34, 3) := by decide +kernel
theorem dX3_readInto_58 : decode cX3_readInto 58 = .ok (.if_acmp .ne 5, 3) := by decide +kernel
theorem dX3_readInto_61 : decode cX3_readInto 61 = .ok (.iconst 1, 1) := by decide +kernel
theorem dX3_readInto_62 : decode cX3_readInto 62 = .ok (.ireturn, 1) := by decide +kernel
theorem dX3_readInto_63 : decode cX3_readInto 63 = .ok (.aload_n 0, 1) := by decide +kernel
theorem dX3_readInto_64 : decode cX3_readInto 64 = .ok (.getfield 14, 3) := by decide +kernel
theorem dX3_readInto_67 : decode cX3_readInto 67 = .ok (.getstatic 43, 3) := by decide +kernel
theorem dX3_readInto_70 : decode cX3_readInto 70 = .ok (.invokevirtual 46, 3) := by decide +kernel
theorem dX3_readInto_73 : decode cX3_readInto 73 = .ok (.ifCond .ne 11, 3) := by decide +kernel
theorem dX3_readInto_76 : decode cX3_readInto 76 = .ok (.aload_n 0, 1) := by decide +kernel
theorem dX3_readInto_77 : decode cX3_readInto 77 = .ok (.getfield 14, 3) := by decide +kernel
theorem dX3_readInto_80 : decode cX3_readInto 80 = .ok (.invokevirtual 50, 3) := by decide +kernel
theorem dX3_readInto_83 : decode cX3_readInto 83 = .ok (.ireturn, 1) := by decide +kernel
theorem dX3_readInto_84 : decode cX3_readInto 84 = .ok (.iinc 4 1, 3) := by decide +kernel
theorem dX3_readInto_87 : decode cX3_readInto 87 = .ok (.goto (-56), 3) := by decide +kernel
theorem dX3_readInto_90 : decode cX3_readInto 90 = .ok (.aload_n 0, 1) := by decide +kernel
theorem dX3_readInto_91 : decode cX3_readInto 91 = .ok (.getfield 14, 3) := by decide +kernel
theorem dX3_readInto_94 : decode cX3_readInto 94 = .ok (.invokevirtual 50, 3) := by decide +kernel
theorem dX3_readInto_97 : decode cX3_readInto 97 = .ok (.ireturn, 1) := by decide +kernel
theorem dX3_readLine_0 : decode cX3_readLine 0 = .ok (.aload_n 0, 1) := by decide +kernel
theorem dX3_readLine_1 : decode cX3_readLine 1 = .ok (.getfield 14, 3) := by decide +kernel
theorem dX3_readLine_4 : decode cX3_readLine 4 = .ok (.getstatic 54, 3) := by decide +kernel
theorem dX3_readLine_7 : decode cX3_readLine 7 = .ok (.invokevirtual 46, 3) := by decide +kernel
theorem dX3_readLine_10 : decode cX3_readLine 10 = .ok (.istore_n 2, 1) := by decide +kernel
theorem dX3_readLine_11 : decode cX3_readLine 11 = .ok (.iload_n 2, 1) := by decide +kernel
theorem dX3_readLine_12 : decode cX3_readLine 12 = .ok (.ifCond .ne 24, 3) := by decide +kernel
theorem dX3_readLine_15 : decode cX3_readLine 15 = .ok (.aload_n 0, 1) := by decide +kernel
theorem dX3_readLine_16 : decode cX3_readLine 16 = .ok (.getfield 14, 3) := by decide +kernel
theorem dX3_readLine_19 : decode cX3_readLine 19 = .ok (.getstatic 57, 3) := by decide +kernel
theorem dX3_readLine_22 : decode cX3_readLine 22 = .ok (.invokevirtual 46, 3) := by decide +kernel
theorem dX3_readLine_25 : decode cX3_readLine 25 = .ok (.ifCond .ne 11, 3) := by decide +kernel
theorem dX3_readLine_28 : decode cX3_readLine 28 = .ok (.aload_n 0, 1) := by decide +kernel
theorem dX3_readLine_29 : decode cX3_readLine 29 = .ok (.getfield 14, 3) := by decide +kernel
theorem dX3_readLine_32 : decode cX3_readLine 32 = .ok (.invokevirtual 50, 3) := by decide +kernel
theorem dX3_readLine_35 : decode cX3_readLine 35 = .ok (.ireturn, 1) := by decide +kernel
theorem dX3_readLine_36 : decode cX3_readLine 36 = .ok (.aload_n 0, 1) := by decide +kernel
theorem dX3_readLine_37 : decode cX3_readLine 37 = .ok (.getfield 14, 3) := by decide +kernel
theorem dX3_readLine_40 : decode cX3_readLine 40 = .ok (.iconst 0, 1) := by decide +kernel
theorem dX3_readLine_41 : decode cX3_readLine 41 = .ok (.bipush 8, 2) := by decide +kernel
theorem dX3_readLine_43 : decode cX3_readLine 43 = .ok (.invokevirtual 60, 3) := by decide +kernel
theorem dX3_readLine_46 : decode cX3_readLine 46 = .ok (.istore_n 3, 1) := by decide +kernel
theorem dX3_readLine_47 : decode cX3_readLine 47 = .ok (.iload_n 3, 1) := by decide +kernel
theorem dX3_readLine_48 : decode cX3_readLine 48 = .ok (.iconst (-1), 1) := by decide +kernel
theorem dX3_readLine_49 : decode cX3_readLine 49 = .ok (.if_icmp .ne 24, 3) := by decide +kernel
theorem dX3_readLine_52 : decode cX3_readLine 52 = .ok (.aload_n 0, 1) := by decide +kernel
theorem dX3_readLine_53 : decode cX3_readLine 53 = .ok (.getfield 14, 3) := by decide +kernel
theorem dX3_readLine_56 : decode cX3_readLine 56 = .ok (.getfield 30, 3) := by decide +kernel
theorem dX3_readLine_59 : decode cX3_readLine 59 = .ok (.getstatic 64, 3) := by decide +kernel
theorem dX3_readLine_62 : decode cX3_readLine 62 = .ok (.if_acmp .eq 11, 3) := by decide +kernel
theorem dX3_readLine_65 : decode cX3_readLine 65 = .ok (.aload_n 0, 1) := by decide +kernel
theorem dX3_readLine_66 : decode cX3_readLine 66 = .ok (.getfield 14, 3) := by decide +kernel
theorem dX3_readLine_69 : decode cX3_readLine 69 = .ok (.invokevirtual 50, 3) := by decide +kernel
theorem dX3_readLine_72 : decode cX3_readLine 72 = .ok (.ireturn, 1) := by decide +kernel
theorem dX3_readLine_73 : decode cX3_readLine 73 = .ok (.aload_n 0, 1) := by decide +kernel
theorem dX3_readLine_74 : decode cX3_readLine 74 = .ok (.getfield 14, 3) := by decide +kernel
theorem dX3_readLine_77 : decode cX3_readLine 77 = .ok (.invokevirtual 67, 3) := by decide +kernel
theorem dX3_readLine_80 : decode cX3_readLine 80 = .ok (.aload_n 0, 1) := by decide +kernel
theorem dX3_readLine_81 : decode cX3_readLine 81 = .ok (.getfield 14, 3) := by decide +kernel
theorem dX3_readLine_84 : decode cX3_readLine 84 = .ok (.iconst 0, 1) := by decide +kernel
theorem dX3_readLine_85 : decode cX3_readLine 85 = .ok (.bipush 99, 2) := by decide +kernel
theorem dX3_readLine_87 : decode cX3_readLine 87 = .ok (.invokevirtual 60, 3) := by decide +kernel
theorem dX3_readLine_90 : decode cX3_readLine 90 = .ok (.istore 4, 2) := by decide +kernel
theorem dX3_readLine_92 : decode cX3_readLine 92 = .ok (.iload 4, 2) := by decide +kernel
theorem dX3_readLine_94 : decode cX3_readLine 94 = .ok (.iconst (-1), 1) := by decide +kernel
theorem dX3_readLine_95 : decode cX3_readLine 95 = .ok (.if_icmp .ne 11, 3) := by decide +kernel
theorem dX3_readLine_98 : decode cX3_readLine 98 = .ok (.aload_n 0, 1) := by decide +kernel
theorem dX3_readLine_99 : decode cX3_readLine 99 = .ok (.getfield 14, 3) := by decide +kernel
theorem dX3_readLine_102 : decode cX3_readLine 102 = .ok (.invokevirtual 50, 3) := by decide +kernel
theorem dX3_readLine_105 : decode cX3_readLine 105 = .ok (.ireturn, 1) := by decide +kernel
theorem dX3_readLine_106 : decode cX3_readLine 106 = .ok (.aload_n 0, 1) := by decide +kernel
theorem dX3_readLine_107 : decode cX3_readLine 107 = .ok (.getfield 14, 3) := by decide +kernel
theorem dX3_readLine_110 : decode cX3_readLine 110 = .ok (.invokevirtual 67, 3) := by decide +kernel
theorem dX3_readLine_113 : decode cX3_readLine 113 = .ok (.aload_n 0, 1) := by decide +kernel
theorem dX3_readLine_114 : decode cX3_readLine 114 = .ok (.getfield 14, 3) := by decide +kernel
theorem dX3_readLine_117 : decode cX3_readLine 117 = .ok (.getstatic 70, 3) := by decide +kernel
theorem dX3_readLine_120 : decode cX3_readLine 120 = .ok (.invokevirtual 46, 3) := by decide +kernel
theorem dX3_readLine_123 : decode cX3_readLine 123 = .ok (.ifCond .eq 13, 3) := by decide +kernel
theorem dX3_readLine_126 : decode cX3_readLine 126 = .ok (.aload_n 0, 1) := by decide +kernel
theorem dX3_readLine_127 : decode cX3_readLine 127 = .ok (.aload_n 1, 1) := by decide +kernel
theorem dX3_readLine_128 : decode cX3_readLine 128 = .ok (.invokevirtual 73, 3) := by decide +kernel
theorem dX3_readLine_131 : decode cX3_readLine 131 = .ok (.ifCond .ne 5, 3) := by decide +kernel
theorem dX3_readLine_134 : decode cX3_readLine 134 = .ok (.iconst 0, 1) := by decide +kernel
theorem dX3_readLine_135 : decode cX3_readLine 135 = .ok (.ireturn, 1) := by decide +kernel
theorem dX3_readLine_136 : decode cX3_readLine 136 = .ok (.aload_n 1, 1) := by decide +kernel
theorem dX3_readLine_137 : decode cX3_readLine 137 = .ok (.iload_n 3, 1) := by decide +kernel
theorem dX3_readLine_138 : decode cX3_readLine 138 = .ok (.iload_n 2, 1) := by decide +kernel
theorem dX3_readLine_139 : decode cX3_readLine 139 = .ok (.ifCond .eq 8, 3) := by decide +kernel
theorem dX3_readLine_142 : decode cX3_readLine 142 = .ok (.iload 4, 2) := by decide +kernel
theorem dX3_readLine_144 : decode cX3_readLine 144 = .ok (.goto 6, 3) := by decide +kernel
theorem dX3_readLine_147 : decode cX3_readLine 147 = .ok (.iload 4, 2) := by decide +kernel
theorem dX3_readLine_149 : decode cX3_readLine 149 = .ok (.ineg, 1) := by decide +kernel
theorem dX3_readLine_150 : decode cX3_readLine 150 = .ok (.invokevirtual 76, 3) := by decide +kernel
theorem dX3_readLine_153 : decode cX3_readLine 153 = .ok (.iconst 1, 1) := by decide +kernel
theorem dX3_readLine_154 : decode cX3_readLine 154 = .ok (.ireturn, 1) := by decide +kernel
theorem dX3_readCondition_0 : decode cX3_readCondition 0 = .ok (.aload_n 0, 1) := by decide +kernel
theorem dX3_readCondition_1 : decode cX3_readCondition 1 = .ok (.iconst 0, 1) := by decide +kernel
theorem dX3_readCondition_2 : decode cX3_readCondition 2 = .ok (.putfield 80, 3) := by decide +kernel
theorem dX3_readCondition_5 : decode cX3_readCondition 5 = .ok (.aload_n 0, 1) := by decide +kernel
theorem dX3_readCondition_6 : decode cX3_readCondition 6 = .ok (.iconst 0, 1) := by decide +kernel
theorem dX3_readCondition_7 : decode cX3_readCondition 7 = .ok (.putfield 84, 3) := by decide +kernel
theorem dX3_readCondition_10 : decode cX3_readCondition 10 = .ok (.iconst 0, 1) := by decide +kernel
theorem dX3_readCondition_11 : decode cX3_readCondition 11 = .ok (.istore_n 2, 1) := by decide +kernel
theorem dX3_readCondition_12 : decode cX3_readCondition 12 = .ok (.iload_n 2, 1) := by decide +kernel
theorem dX3_readCondition_13 : decode cX3_readCondition 13 = .ok (.sipush 400, 3) := by decide +kernel
theorem dX3_readCondition_16 : decode cX3_readCondition 16 = .ok (.if_icmp .ge 120, 3) := by decide +kernel
theorem dX3_readCondition_19 : decode cX3_readCondition 19 = .ok (.aload_n 0, 1) := by decide +kernel
theorem dX3_readCondition_20 : decode cX3_readCondition 20 = .ok (.invokevirtual 87, 3) := by decide +kernel
theorem dX3_readCondition_23 : decode cX3_readCondition 23 = .ok (.ifCond .eq 11, 3) := by decide +kernel
theorem dX3_readCondition_26 : decode cX3_readCondition 26 = .ok (.aload_n 0, 1) := by decide +kernel
theorem dX3_readCondition_27 : decode cX3_readCondition 27 = .ok (.aload_n 1, 1) := by decide +kernel
theorem dX3_readCondition_28 : decode cX3_readCondition 28 = .ok (.invokevirtual 90, 3) := by decide +kernel
theorem dX3_readCondition_31 : decode cX3_readCondition 31 = .ok (.ifCond .ne 5, 3) := by decide +kernel
theorem dX3_readCondition_34 : decode cX3_readCondition 34 = .ok (.iconst 0, 1) := by decide +kernel
theorem dX3_readCondition_35 : decode cX3_readCondition 35 = .ok (.ireturn, 1) := by decide +kernel
theorem dX3_readCondition_36 : decode cX3_readCondition 36 = .ok (.aload_n 0, 1) := by decide +kernel
theorem dX3_readCondition_37 : decode cX3_readCondition 37 = .ok (.aload_n 1, 1) := by decide +kernel
theorem dX3_readCondition_38 : decode cX3_readCondition 38 = .ok (.invokevirtual 93, 3) := by decide +kernel
theorem dX3_readCondition_41 : decode cX3_readCondition 41 = .ok (.aload_n 0, 1) := by decide +kernel
theorem dX3_readCondition_42 : decode cX3_readCondition 42 = .ok (.getfield 14, 3) := by decide +kernel
theorem dX3_readCondition_45 : decode cX3_readCondition 45 = .ok (.getfield 30, 3) := by decide +kernel
theorem dX3_readCondition_48 : decode cX3_readCondition 48 = .ok (.getstatic 97, 3) := by decide +kernel
theorem dX3_readCondition_51 : decode cX3_readCondition 51 = .ok (.if_acmp .ne 21, 3) := by decide +kernel
theorem dX3_readCondition_54 : decode cX3_readCondition 54 = .ok (.aload_n 0, 1) := by decide +kernel
theorem dX3_readCondition_55 : decode cX3_readCondition 55 = .ok (.aload_n 1, 1) := by decide +kernel
theorem dX3_readCondition_56 : decode cX3_readCondition 56 = .ok (.sipush 1024, 3) := by decide +kernel
theorem dX3_readCondition_59 : decode cX3_readCondition 59 = .ok (.invokevirtual 100, 3) := by decide +kernel
theorem dX3_readCondition_62 : decode cX3_readCondition 62 = .ok (.aload_n 0, 1) := by decide +kernel
theorem dX3_readCondition_63 : decode cX3_readCondition 63 = .ok (.sipush 1024, 3) := by decide +kernel
theorem dX3_readCondition_66 : decode cX3_readCondition 66 = .ok (.invokevirtual 104, 3) := by decide +kernel
theorem dX3_readCondition_69 : decode cX3_readCondition 69 = .ok (.goto 54, 3) := by decide +kernel
theorem dX3_readCondition_72 : decode cX3_readCondition 72 = .ok (.aload_n 0, 1) := by decide +kernel
theorem dX3_readCondition_73 : decode cX3_readCondition 73 = .ok (.aload_n 1, 1) := by decide +kernel
theorem dX3_readCondition_74 : decode cX3_readCondition 74 = .ok (.sipush 1025, 3) := by decide +kernel
theorem dX3_readCondition_77 : decode cX3_readCondition 77 = .ok (.invokevirtual 100, 3) := by decide +kernel
theorem dX3_readCondition_80 : decode cX3_readCondition 80 = .ok (.aload_n 0, 1) := by decide +kernel
theorem dX3_readCondition_81 : decode cX3_readCondition 81 = .ok (.getfield 14, 3) := by decide +kernel
theorem dX3_readCondition_84 : decode cX3_readCondition 84 = .ok (.getfield 30, 3) := by decide +kernel
theorem dX3_readCondition_87 : decode cX3_readCondition 87 = .ok (.getstatic 108, 3) := by decide +kernel
theorem dX3_readCondition_90 : decode cX3_readCondition 90 = .ok (.if_acmp .eq 26, 3) := by decide +kernel
theorem dX3_readCondition_93 : decode cX3_readCondition 93 = .ok (.aload_n 0, 1) := by decide +kernel
theorem dX3_readCondition_94 : decode cX3_readCondition 94 = .ok (.getfield 80, 3) := by decide +kernel
theorem dX3_readCondition_97 : decode cX3_readCondition 97 = .ok (.ifCond .eq 13, 3) := by decide +kernel
theorem dX3_readCondition_100 : decode cX3_readCondition 100 = .ok (.aload_n 0, 1) := by decide +kernel
theorem dX3_readCondition_101 : decode cX3_readCondition 101 = .ok (.getfield 14, 3) := by decide +kernel
theorem dX3_readCondition_104 : decode cX3_readCondition 104 = .ok (.invokevirtual 50, 3) := by decide +kernel
theorem dX3_readCondition_107 : decode cX3_readCondition 107 = .ok (.ifCond .eq 7, 3) := by decide +kernel
theorem dX3_readCondition_110 : decode cX3_readCondition 110 = .ok (.iconst 1, 1) := by decide +kernel
theorem dX3_readCondition_111 : decode cX3_readCondition 111 = .ok (.goto 4, 3) := by decide +kernel
theorem dX3_readCondition_114 : decode cX3_readCondition 114 = .ok (.iconst 0, 1) := by decide +kernel
theorem dX3_readCondition_115 : decode cX3_readCondition 115 = .ok (.ireturn, 1) := by decide +kernel
theorem dX3_readCondition_116 : decode cX3_readCondition 116 = .ok (.aload_n 0, 1) := by decide +kernel
theorem dX3_readCondition_117 : decode cX3_readCondition 117 = .ok (.sipush 1025, 3) := by decide +kernel
theorem dX3_readCondition_120 : decode cX3_readCondition 120 = .ok (.invokevirtual 104, 3) := by decide +kernel
theorem dX3_readCondition_123 : decode cX3_readCondition 123 = .ok (.aload_n 0, 1) := by decide +kernel
theorem dX3_readCondition_124 : decode cX3_readCondition 124 = .ok (.getfield 14, 3) := by decide +kernel
theorem dX3_readCondition_127 : decode cX3_readCondition 127 = .ok (.invokevirtual 67, 3) := by decide +kernel
theorem dX3_readCondition_130 : decode cX3_readCondition 130 = .ok (.iinc 2 1, 3) := by decide +kernel
theorem dX3_readCondition_133 : decode cX3_readCondition 133 = .ok (.goto (-121), 3) := by decide +kernel
theorem dX3_readCondition_136 : decode cX3_readCondition 136 = .ok (.aload_n 0, 1) := by decide +kernel
theorem dX3_readCondition_137 : decode cX3_readCondition 137 = .ok (.getfield 14, 3) := by decide +kernel
theorem dX3_readCondition_140 : decode cX3_readCondition 140 = .ok (.invokevirtual 50, 3) := by decide +kernel
theorem dX3_readCondition_143 : decode cX3_readCondition 143 = .ok (.ireturn, 1) := by decide +kernel
theorem dX3_readOpenings_0 : decode cX3_readOpenings 0 = .ok (.iconst 0, 1) := by decide +kernel
theorem dX3_readOpenings_1 : decode cX3_readOpenings 1 = .ok (.istore_n 1, 1) := by decide +kernel
theorem dX3_readOpenings_2 : decode cX3_readOpenings 2 = .ok (.iload_n 1, 1) := by decide +kernel
theorem dX3_readOpenings_3 : decode cX3_readOpenings 3 = .ok (.bipush 6, 2) := by decide +kernel
theorem dX3_readOpenings_5 : decode cX3_readOpenings 5 = .ok (.if_icmp .gt 95, 3) := by decide +kernel
theorem dX3_readOpenings_8 : decode cX3_readOpenings 8 = .ok (.aload_n 0, 1) := by decide +kernel
theorem dX3_readOpenings_9 : decode cX3_readOpenings 9 = .ok (.getfield 14, 3) := by decide +kernel
theorem dX3_readOpenings_12 : decode cX3_readOpenings 12 = .ok (.getfield 30, 3) := by decide +kernel
theorem dX3_readOpenings_15 : decode cX3_readOpenings 15 = .ok (.getstatic 111, 3) := by decide +kernel
theorem dX3_readOpenings_18 : decode cX3_readOpenings 18 = .ok (.if_acmp .eq 16, 3) := by decide +kernel
theorem dX3_readOpenings_21 : decode cX3_readOpenings 21 = .ok (.aload_n 0, 1) := by decide +kernel
theorem dX3_readOpenings_22 : decode cX3_readOpenings 22 = .ok (.getfield 14, 3) := by decide +kernel
theorem dX3_readOpenings_25 : decode cX3_readOpenings 25 = .ok (.getfield 30, 3) := by decide +kernel
theorem dX3_readOpenings_28 : decode cX3_readOpenings 28 = .ok (.getstatic 114, 3) := by decide +kernel
theorem dX3_readOpenings_31 : decode cX3_readOpenings 31 = .ok (.if_acmp .ne 69, 3) := by decide +kernel
theorem dX3_readOpenings_34 : decode cX3_readOpenings 34 = .ok (.aload_n 0, 1) := by decide +kernel
theorem dX3_readOpenings_35 : decode cX3_readOpenings 35 = .ok (.getfield 84, 3) := by decide +kernel
theorem dX3_readOpenings_38 : decode cX3_readOpenings 38 = .ok (.bipush 6, 2) := by decide +kernel
theorem dX3_readOpenings_40 : decode cX3_readOpenings 40 = .ok (.if_icmp .lt 11, 3) := by decide +kernel
theorem dX3_readOpenings_43 : decode cX3_readOpenings 43 = .ok (.aload_n 0, 1) := by decide +kernel
theorem dX3_readOpenings_44 : decode cX3_readOpenings 44 = .ok (.getfield 14, 3) := by decide +kernel
theorem dX3_readOpenings_47 : decode cX3_readOpenings 47 = .ok (.invokevirtual 50, 3) := by decide +kernel
theorem dX3_readOpenings_50 : decode cX3_readOpenings 50 = .ok (.ireturn, 1) := by decide +kernel
theorem dX3_readOpenings_51 : decode cX3_readOpenings 51 = .ok (.aload_n 0, 1) := by decide +kernel
theorem dX3_readOpenings_52 : decode cX3_readOpenings 52 = .ok (.dup, 1) := by decide +kernel
theorem dX3_readOpenings_53 : decode cX3_readOpenings 53 = .ok (.getfield 84, 3) := by decide +kernel
theorem dX3_readOpenings_56 : decode cX3_readOpenings 56 = .ok (.iconst 1, 1) := by decide +kernel
theorem dX3_readOpenings_57 : decode cX3_readOpenings 57 = .ok (.iadd, 1) := by decide +kernel
theorem dX3_readOpenings_58 : decode cX3_readOpenings 58 = .ok (.putfield 84, 3) := by decide +kernel
theorem dX3_readOpenings_61 : decode cX3_readOpenings 61 = .ok (.aload_n 0, 1) := by decide +kernel
theorem dX3_readOpenings_62 : decode cX3_readOpenings 62 = .ok (.aload_n 0, 1) := by decide +kernel
theorem dX3_readOpenings_63 : decode cX3_readOpenings 63 = .ok (.getfield 14, 3) := by decide +kernel
theorem dX3_readOpenings_66 : decode cX3_readOpenings 66 = .ok (.getfield 30, 3) := by decide +kernel
theorem dX3_readOpenings_69 : decode cX3_readOpenings 69 = .ok (.getstatic 111, 3) := by decide +kernel
theorem dX3_readOpenings_72 : decode cX3_readOpenings 72 = .ok (.if_acmp .ne 9, 3) := by decide +kernel
theorem dX3_readOpenings_75 : decode cX3_readOpenings 75 = .ok (.sipush 1023, 3) := by decide +kernel
theorem dX3_readOpenings_78 : decode cX3_readOpenings 78 = .ok (.goto 6, 3) := by decide +kernel
theorem dX3_readOpenings_81 : decode cX3_readOpenings 81 = .ok (.sipush 1026, 3) := by decide +kernel
theorem dX3_readOpenings_84 : decode cX3_readOpenings 84 = .ok (.invokevirtual 104, 3) := by decide +kernel
theorem dX3_readOpenings_87 : decode cX3_readOpenings 87 = .ok (.aload_n 0, 1) := by decide +kernel
theorem dX3_readOpenings_88 : decode cX3_readOpenings 88 = .ok (.getfield 14, 3) := by decide +kernel
theorem dX3_readOpenings_91 : decode cX3_readOpenings 91 = .ok (.invokevirtual 67, 3) := by decide +kernel
theorem dX3_readOpenings_94 : decode cX3_readOpenings 94 = .ok (.iinc 1 1, 3) := by decide +kernel
theorem dX3_readOpenings_97 : decode cX3_readOpenings 97 = .ok (.goto (-95), 3) := by decide +kernel
theorem dX3_readOpenings_100 : decode cX3_readOpenings 100 = .ok (.iconst 1, 1) := by decide +kernel
theorem dX3_readOpenings_101 : decode cX3_readOpenings 101 = .ok (.ireturn, 1) := by decide +kernel
theorem dX3_readClosings_0 : decode cX3_readClosings 0 = .ok (.iconst 0, 1) := by decide +kernel
theorem dX3_readClosings_1 : decode cX3_readClosings 1 = .ok (.istore_n 2, 1) := by decide +kernel
theorem dX3_readClosings_2 : decode cX3_readClosings 2 = .ok (.iload_n 2, 1) := by decide +kernel
theorem dX3_readClosings_3 : decode cX3_readClosings 3 = .ok (.bipush 6, 2) := by decide +kernel
theorem dX3_readClosings_5 : decode cX3_readClosings 5 = .ok (.if_icmp .ge 65, 3) := by decide +kernel
theorem dX3_readClosings_8 : decode cX3_readClosings 8 = .ok (.aload_n 0, 1) := by decide +kernel
theorem dX3_readClosings_9 : decode cX3_readClosings 9 = .ok (.getfield 14, 3) := by decide +kernel
theorem dX3_readClosings_12 : decode cX3_readClosings 12 = .ok (.getfield 30, 3) := by decide +kernel
theorem dX3_readClosings_15 : decode cX3_readClosings 15 = .ok (.getstatic 117, 3) := by decide +kernel
theorem dX3_readClosings_18 : decode cX3_readClosings 18 = .ok (.if_acmp .ne 52, 3) := by decide +kernel
theorem dX3_readClosings_21 : decode cX3_readClosings 21 = .ok (.aload_n 0, 1) := by decide +kernel
theorem dX3_readClosings_22 : decode cX3_readClosings 22 = .ok (.aload_n 1, 1) := by decide +kernel
theorem dX3_readClosings_23 : decode cX3_readClosings 23 = .ok (.sipush 1025, 3) := by decide +kernel
theorem dX3_readClosings_26 : decode cX3_readClosings 26 = .ok (.invokevirtual 100, 3) := by decide +kernel
theorem dX3_readClosings_29 : decode cX3_readClosings 29 = .ok (.aload_n 0, 1) := by decide +kernel
theorem dX3_readClosings_30 : decode cX3_readClosings 30 = .ok (.getfield 80, 3) := by decide +kernel
theorem dX3_readClosings_33 : decode cX3_readClosings 33 = .ok (.ifCond .ne 4, 3) := by decide +kernel
theorem dX3_readClosings_36 : decode cX3_readClosings 36 = .ok (.return_, 1) := by decide +kernel
theorem dX3_readClosings_37 : decode cX3_readClosings 37 = .ok (.aload_n 0, 1) := by decide +kernel
theorem dX3_readClosings_38 : decode cX3_readClosings 38 = .ok (.dup, 1) := by decide +kernel
theorem dX3_readClosings_39 : decode cX3_readClosings 39 = .ok (.getfield 80, 3) := by decide +kernel
theorem dX3_readClosings_42 : decode cX3_readClosings 42 = .ok (.iconst 1, 1) := by decide +kernel
theorem dX3_readClosings_43 : decode cX3_readClosings 43 = .ok (.isub, 1) := by decide +kernel
theorem dX3_readClosings_44 : decode cX3_readClosings 44 = .ok (.putfield 80, 3) := by decide +kernel
theorem dX3_readClosings_47 : decode cX3_readClosings 47 = .ok (.aload_n 0, 1) := by decide +kernel
theorem dX3_readClosings_48 : decode cX3_readClosings 48 = .ok (.dup, 1) := by decide +kernel
theorem dX3_readClosings_49 : decode cX3_readClosings 49 = .ok (.getfield 84, 3) := by decide +kernel
theorem dX3_readClosings_52 : decode cX3_readClosings 52 = .ok (.iconst 1, 1) := by decide +kernel
theorem dX3_readClosings_53 : decode cX3_readClosings 53 = .ok (.isub, 1) := by decide +kernel
theorem dX3_readClosings_54 : decode cX3_readClosings 54 = .ok (.putfield 84, 3) := by decide +kernel
theorem dX3_readClosings_57 : decode cX3_readClosings 57 = .ok (.aload_n 0, 1) := by decide +kernel
theorem dX3_readClosings_58 : decode cX3_readClosings 58 = .ok (.getfield 14, 3) := by decide +kernel
theorem dX3_readClosings_61 : decode cX3_readClosings 61 = .ok (.invokevirtual 67, 3) := by decide +kernel
theorem dX3_readClosings_64 : decode cX3_readClosings 64 = .ok (.iinc 2 1, 3) := by decide +kernel
theorem dX3_readClosings_67 : decode cX3_readClosings 67 = .ok (.goto (-65), 3) := by decide +kernel
theorem dX3_readClosings_70 : decode cX3_readClosings 70 = .ok (.return_, 1) := by decide +kernel
theorem dX3_leaveOpen_0 : decode cX3_leaveOpen 0 = .ok (.aload_n 0, 1) := by decide +kernel
theorem dX3_leaveOpen_1 : decode cX3_leaveOpen 1 = .ok (.getfield 20, 3) := by decide +kernel
theorem dX3_leaveOpen_4 : decode cX3_leaveOpen 4 = .ok (.aload_n 0, 1) := by decide +kernel
theorem dX3_leaveOpen_5 : decode cX3_leaveOpen 5 = .ok (.getfield 80, 3) := by decide +kernel
theorem dX3_leaveOpen_8 : decode cX3_leaveOpen 8 = .ok (.iload_n 1, 1) := by decide +kernel
theorem dX3_leaveOpen_9 : decode cX3_leaveOpen 9 = .ok (.invokestatic 120, 3) := by decide +kernel
theorem dX3_leaveOpen_12 : decode cX3_leaveOpen 12 = .ok (.aload_n 0, 1) := by decide +kernel
theorem dX3_leaveOpen_13 : decode cX3_leaveOpen 13 = .ok (.dup, 1) := by decide +kernel
theorem dX3_leaveOpen_14 : decode cX3_leaveOpen 14 = .ok (.getfield 80, 3) := by decide +kernel
theorem dX3_leaveOpen_17 : decode cX3_leaveOpen 17 = .ok (.iconst 1, 1) := by decide +kernel
theorem dX3_leaveOpen_18 : decode cX3_leaveOpen 18 = .ok (.iadd, 1) := by decide +kernel
theorem dX3_leaveOpen_19 : decode cX3_leaveOpen 19 = .ok (.putfield 80, 3) := by decide +kernel
theorem dX3_leaveOpen_22 : decode cX3_leaveOpen 22 = .ok (.return_, 1) := by decide +kernel
theorem dX3_settle_0 : decode cX3_settle 0 = .ok (.aload_n 0, 1) := by decide +kernel
theorem dX3_settle_1 : decode cX3_settle 1 = .ok (.getfield 80, 3) := by decide +kernel
theorem dX3_settle_4 : decode cX3_settle 4 = .ok (.ifCond .le 71, 3) := by decide +kernel
theorem dX3_settle_7 : decode cX3_settle 7 = .ok (.aload_n 0, 1) := by decide +kernel
theorem dX3_settle_8 : decode cX3_settle 8 = .ok (.getfield 20, 3) := by decide +kernel
theorem dX3_settle_11 : decode cX3_settle 11 = .ok (.aload_n 0, 1) := by decide +kernel
theorem dX3_settle_12 : decode cX3_settle 12 = .ok (.getfield 80, 3) := by decide +kernel
theorem dX3_settle_15 : decode cX3_settle 15 = .ok (.iconst 1, 1) := by decide +kernel
theorem dX3_settle_16 : decode cX3_settle 16 = .ok (.isub, 1) := by decide +kernel
theorem dX3_settle_17 : decode cX3_settle 17 = .ok (.invokestatic 124, 3) := by decide +kernel
theorem dX3_settle_20 : decode cX3_settle 20 = .ok (.iload_n 2, 1) := by decide +kernel
theorem dX3_settle_21 : decode cX3_settle 21 = .ok (.if_icmp .gt 54, 3) := by decide +kernel
theorem dX3_settle_24 : decode cX3_settle 24 = .ok (.aload_n 0, 1) := by decide +kernel
theorem dX3_settle_25 : decode cX3_settle 25 = .ok (.dup, 1) := by decide +kernel
theorem dX3_settle_26 : decode cX3_settle 26 = .ok (.getfield 80, 3) := by decide +kernel
theorem dX3_settle_29 : decode cX3_settle 29 = .ok (.iconst 1, 1) := by decide +kernel
theorem dX3_settle_30 : decode cX3_settle 30 = .ok (.isub, 1) := by decide +kernel
theorem dX3_settle_31 : decode cX3_settle 31 = .ok (.putfield 80, 3) := by decide +kernel
theorem dX3_settle_34 : decode cX3_settle 34 = .ok (.aload_n 0, 1) := by decide +kernel
theorem dX3_settle_35 : decode cX3_settle 35 = .ok (.getfield 20, 3) := by decide +kernel
theorem dX3_settle_38 : decode cX3_settle 38 = .ok (.aload_n 0, 1) := by decide +kernel
theorem dX3_settle_39 : decode cX3_settle 39 = .ok (.getfield 80, 3) := by decide +kernel
theorem dX3_settle_42 : decode cX3_settle 42 = .ok (.invokestatic 124, 3) := by decide +kernel
theorem dX3_settle_45 : decode cX3_settle 45 = .ok (.istore_n 3, 1) := by decide +kernel
theorem dX3_settle_46 : decode cX3_settle 46 = .ok (.aload_n 0, 1) := by decide +kernel
theorem dX3_settle_47 : decode cX3_settle 47 = .ok (.dup, 1) := by decide +kernel
theorem dX3_settle_48 : decode cX3_settle 48 = .ok (.getfield 84, 3) := by decide +kernel
theorem dX3_settle_51 : decode cX3_settle 51 = .ok (.iload_n 3, 1) := by decide +kernel
theorem dX3_settle_52 : decode cX3_settle 52 = .ok (.sipush 1023, 3) := by decide +kernel
theorem dX3_settle_55 : decode cX3_settle 55 = .ok (.if_icmp .ne 7, 3) := by decide +kernel
theorem dX3_settle_58 : decode cX3_settle 58 = .ok (.iconst 1, 1) := by decide +kernel
theorem dX3_settle_59 : decode cX3_settle 59 = .ok (.goto 4, 3) := by decide +kernel
theorem dX3_settle_62 : decode cX3_settle 62 = .ok (.iconst 0, 1) := by decide +kernel
theorem dX3_settle_63 : decode cX3_settle 63 = .ok (.isub, 1) := by decide +kernel
theorem dX3_settle_64 : decode cX3_settle 64 = .ok (.putfield 84, 3) := by decide +kernel
theorem dX3_settle_67 : decode cX3_settle 67 = .ok (.aload_n 1, 1) := by decide +kernel
theorem dX3_settle_68 : decode cX3_settle 68 = .ok (.iload_n 3, 1) := by decide +kernel
theorem dX3_settle_69 : decode cX3_settle 69 = .ok (.invokevirtual 128, 3) := by decide +kernel
theorem dX3_settle_72 : decode cX3_settle 72 = .ok (.goto (-72), 3) := by decide +kernel
theorem dX3_settle_75 : decode cX3_settle 75 = .ok (.return_, 1) := by decide +kernel
theorem dX3_readAtom_0 : decode cX3_readAtom 0 = .ok (.aload_n 0, 1) := by decide +kernel
theorem dX3_readAtom_1 : decode cX3_readAtom 1 = .ok (.getfield 14, 3) := by decide +kernel
theorem dX3_readAtom_4 : decode cX3_readAtom 4 = .ok (.invokevirtual 131, 3) := by decide +kernel
theorem dX3_readAtom_7 : decode cX3_readAtom 7 = .ok (.istore_n 2, 1) := by decide +kernel
theorem dX3_readAtom_8 : decode cX3_readAtom 8 = .ok (.iload_n 2, 1) := by decide +kernel
theorem dX3_readAtom_9 : decode cX3_readAtom 9 = .ok (.iconst (-1), 1) := by decide +kernel
theorem dX3_readAtom_10 : decode cX3_readAtom 10 = .ok (.if_icmp .eq 32, 3) := by decide +kernel
theorem dX3_readAtom_13 : decode cX3_readAtom 13 = .ok (.iload_n 2, 1) := by decide +kernel
theorem dX3_readAtom_14 : decode cX3_readAtom 14 = .ok (.invokestatic 135, 3) := by decide +kernel
theorem dX3_readAtom_17 : decode cX3_readAtom 17 = .ok (.iconst 1, 1) := by decide +kernel
theorem dX3_readAtom_18 : decode cX3_readAtom 18 = .ok (.if_icmp .ne 24, 3) := by decide +kernel
theorem dX3_readAtom_21 : decode cX3_readAtom 21 = .ok (.aload_n 1, 1) := by decide +kernel
theorem dX3_readAtom_22 : decode cX3_readAtom 22 = .ok (.sipush 1010, 3) := by decide +kernel
theorem dX3_readAtom_25 : decode cX3_readAtom 25 = .ok (.iload_n 2, 1) := by decide +kernel
theorem dX3_readAtom_26 : decode cX3_readAtom 26 = .ok (.invokestatic 141, 3) := by decide +kernel
theorem dX3_readAtom_29 : decode cX3_readAtom 29 = .ok (.iadd, 1) := by decide +kernel
theorem dX3_readAtom_30 : decode cX3_readAtom 30 = .ok (.invokevirtual 128, 3) := by decide +kernel
theorem dX3_readAtom_33 : decode cX3_readAtom 33 = .ok (.aload_n 0, 1) := by decide +kernel
theorem dX3_readAtom_34 : decode cX3_readAtom 34 = .ok (.getfield 14, 3) := by decide +kernel
theorem dX3_readAtom_37 : decode cX3_readAtom 37 = .ok (.invokevirtual 67, 3) := by decide +kernel
theorem dX3_readAtom_40 : decode cX3_readAtom 40 = .ok (.iconst 1, 1) := by decide +kernel
theorem dX3_readAtom_41 : decode cX3_readAtom 41 = .ok (.ireturn, 1) := by decide +kernel
theorem dX3_readAtom_42 : decode cX3_readAtom 42 = .ok (.aload_n 0, 1) := by decide +kernel
theorem dX3_readAtom_43 : decode cX3_readAtom 43 = .ok (.aload_n 1, 1) := by decide +kernel
theorem dX3_readAtom_44 : decode cX3_readAtom 44 = .ok (.invokevirtual 144, 3) := by decide +kernel
theorem dX3_readAtom_47 : decode cX3_readAtom 47 = .ok (.ifCond .ne 5, 3) := by decide +kernel
theorem dX3_readAtom_50 : decode cX3_readAtom 50 = .ok (.iconst 0, 1) := by decide +kernel
theorem dX3_readAtom_51 : decode cX3_readAtom 51 = .ok (.ireturn, 1) := by decide +kernel
theorem dX3_readAtom_52 : decode cX3_readAtom 52 = .ok (.aload_n 0, 1) := by decide +kernel
theorem dX3_readAtom_53 : decode cX3_readAtom 53 = .ok (.getfield 14, 3) := by decide +kernel
theorem dX3_readAtom_56 : decode cX3_readAtom 56 = .ok (.getstatic 147, 3) := by decide +kernel
theorem dX3_readAtom_59 : decode cX3_readAtom 59 = .ok (.invokevirtual 46, 3) := by decide +kernel
theorem dX3_readAtom_62 : decode cX3_readAtom 62 = .ok (.istore_n 3, 1) := by decide +kernel
theorem dX3_readAtom_63 : decode cX3_readAtom 63 = .ok (.iload_n 3, 1) := by decide +kernel
theorem dX3_readAtom_64 : decode cX3_readAtom 64 = .ok (.ifCond .ne 24, 3) := by decide +kernel
theorem dX3_readAtom_67 : decode cX3_readAtom 67 = .ok (.aload_n 0, 1) := by decide +kernel
theorem dX3_readAtom_68 : decode cX3_readAtom 68 = .ok (.getfield 14, 3) := by decide +kernel
theorem dX3_readAtom_71 : decode cX3_readAtom 71 = .ok (.getstatic 150, 3) := by decide +kernel
theorem dX3_readAtom_74 : decode cX3_readAtom 74 = .ok (.invokevirtual 46, 3) := by decide +kernel
theorem dX3_readAtom_77 : decode cX3_readAtom 77 = .ok (.ifCond .ne 11, 3) := by decide +kernel
theorem dX3_readAtom_80 : decode cX3_readAtom 80 = .ok (.aload_n 0, 1) := by decide +kernel
theorem dX3_readAtom_81 : decode cX3_readAtom 81 = .ok (.getfield 14, 3) := by decide +kernel
theorem dX3_readAtom_84 : decode cX3_readAtom 84 = .ok (.invokevirtual 50, 3) := by decide +kernel
theorem dX3_readAtom_87 : decode cX3_readAtom 87 = .ok (.ireturn, 1) := by decide +kernel
theorem dX3_readAtom_88 : decode cX3_readAtom 88 = .ok (.aload_n 1, 1) := by decide +kernel
theorem dX3_readAtom_89 : decode cX3_readAtom 89 = .ok (.sipush 1020, 3) := by decide +kernel
theorem dX3_readAtom_92 : decode cX3_readAtom 92 = .ok (.invokevirtual 128, 3) := by decide +kernel
theorem dX3_readAtom_95 : decode cX3_readAtom 95 = .ok (.aload_n 0, 1) := by decide +kernel
theorem dX3_readAtom_96 : decode cX3_readAtom 96 = .ok (.aload_n 1, 1) := by decide +kernel
theorem dX3_readAtom_97 : decode cX3_readAtom 97 = .ok (.invokevirtual 144, 3) := by decide +kernel
theorem dX3_readAtom_100 : decode cX3_readAtom 100 = .ok (.ifCond .ne 5, 3) := by decide +kernel
theorem dX3_readAtom_103 : decode cX3_readAtom 103 = .ok (.iconst 0, 1) := by decide +kernel
theorem dX3_readAtom_104 : decode cX3_readAtom 104 = .ok (.ireturn, 1) := by decide +kernel
theorem dX3_readAtom_105 : decode cX3_readAtom 105 = .ok (.aload_n 1, 1) := by decide +kernel
theorem dX3_readAtom_106 : decode cX3_readAtom 106 = .ok (.iload_n 3, 1) := by decide +kernel
theorem dX3_readAtom_107 : decode cX3_readAtom 107 = .ok (.ifCond .eq 9, 3) := by decide +kernel
theorem dX3_readAtom_110 : decode cX3_readAtom 110 = .ok (.sipush 1021, 3) := by decide +kernel
theorem dX3_readAtom_113 : decode cX3_readAtom 113 = .ok (.goto 6, 3) := by decide +kernel
theorem dX3_readAtom_116 : decode cX3_readAtom 116 = .ok (.sipush 1022, 3) := by decide +kernel
theorem dX3_readAtom_119 : decode cX3_readAtom 119 = .ok (.invokevirtual 128, 3) := by decide +kernel
theorem dX3_readAtom_122 : decode cX3_readAtom 122 = .ok (.iconst 1, 1) := by decide +kernel
theorem dX3_readAtom_123 : decode cX3_readAtom 123 = .ok (.ireturn, 1) := by decide +kernel
theorem dX3_readSum_0 : decode cX3_readSum 0 = .ok (.iconst 0, 1) := by decide +kernel
theorem dX3_readSum_1 : decode cX3_readSum 1 = .ok (.istore_n 2, 1) := by decide +kernel
theorem dX3_readSum_2 : decode cX3_readSum 2 = .ok (.iload_n 2, 1) := by decide +kernel
theorem dX3_readSum_3 : decode cX3_readSum 3 = .ok (.sipush 400, 3) := by decide +kernel
theorem dX3_readSum_6 : decode cX3_readSum 6 = .ok (.if_icmp .ge 88, 3) := by decide +kernel
theorem dX3_readSum_9 : decode cX3_readSum 9 = .ok (.aload_n 0, 1) := by decide +kernel
theorem dX3_readSum_10 : decode cX3_readSum 10 = .ok (.getfield 14, 3) := by decide +kernel
theorem dX3_readSum_13 : decode cX3_readSum 13 = .ok (.getfield 30, 3) := by decide +kernel
theorem dX3_readSum_16 : decode cX3_readSum 16 = .ok (.getfield 153, 3) := by decide +kernel
theorem dX3_readSum_19 : decode cX3_readSum 19 = .ok (.istore_n 3, 1) := by decide +kernel
theorem dX3_readSum_20 : decode cX3_readSum 20 = .ok (.iload_n 3, 1) := by decide +kernel
theorem dX3_readSum_21 : decode cX3_readSum 21 = .ok (.iconst (-1), 1) := by decide +kernel
theorem dX3_readSum_22 : decode cX3_readSum 22 = .ok (.if_icmp .ne 17, 3) := by decide +kernel
theorem dX3_readSum_25 : decode cX3_readSum 25 = .ok (.aload_n 0, 1) := by decide +kernel
theorem dX3_readSum_26 : decode cX3_readSum 26 = .ok (.getfield 14, 3) := by decide +kernel
theorem dX3_readSum_29 : decode cX3_readSum 29 = .ok (.iconst 0, 1) := by decide +kernel
theorem dX3_readSum_30 : decode cX3_readSum 30 = .ok (.sipush 999, 3) := by decide +kernel
theorem dX3_readSum_33 : decode cX3_readSum 33 = .ok (.invokevirtual 60, 3) := by decide +kernel
theorem dX3_readSum_36 : decode cX3_readSum 36 = .ok (.goto 8, 3) := by decide +kernel
theorem dX3_readSum_39 : decode cX3_readSum 39 = .ok (.sipush 1000, 3) := by decide +kernel
theorem dX3_readSum_42 : decode cX3_readSum 42 = .ok (.iload_n 3, 1) := by decide +kernel
theorem dX3_readSum_43 : decode cX3_readSum 43 = .ok (.iadd, 1) := by decide +kernel
theorem dX3_readSum_44 : decode cX3_readSum 44 = .ok (.istore 4, 2) := by decide +kernel
theorem dX3_readSum_46 : decode cX3_readSum 46 = .ok (.iload 4, 2) := by decide +kernel
theorem dX3_readSum_48 : decode cX3_readSum 48 = .ok (.iconst (-1), 1) := by decide +kernel
theorem dX3_readSum_49 : decode cX3_readSum 49 = .ok (.if_icmp .ne 11, 3) := by decide +kernel
theorem dX3_readSum_52 : decode cX3_readSum 52 = .ok (.aload_n 0, 1) := by decide +kernel
theorem dX3_readSum_53 : decode cX3_readSum 53 = .ok (.getfield 14, 3) := by decide +kernel
theorem dX3_readSum_56 : decode cX3_readSum 56 = .ok (.invokevirtual 50, 3) := by decide +kernel
theorem dX3_readSum_59 : decode cX3_readSum 59 = .ok (.ireturn, 1) := by decide +kernel
theorem dX3_readSum_60 : decode cX3_readSum 60 = .ok (.aload_n 1, 1) := by decide +kernel
theorem dX3_readSum_61 : decode cX3_readSum 61 = .ok (.iload 4, 2) := by decide +kernel
theorem dX3_readSum_63 : decode cX3_readSum 63 = .ok (.invokevirtual 128, 3) := by decide +kernel
theorem dX3_readSum_66 : decode cX3_readSum 66 = .ok (.aload_n 0, 1) := by decide +kernel
theorem dX3_readSum_67 : decode cX3_readSum 67 = .ok (.getfield 14, 3) := by decide +kernel
theorem dX3_readSum_70 : decode cX3_readSum 70 = .ok (.invokevirtual 67, 3) := by decide +kernel
theorem dX3_readSum_73 : decode cX3_readSum 73 = .ok (.aload_n 0, 1) := by decide +kernel
theorem dX3_readSum_74 : decode cX3_readSum 74 = .ok (.getfield 14, 3) := by decide +kernel
theorem dX3_readSum_77 : decode cX3_readSum 77 = .ok (.getstatic 156, 3) := by decide +kernel
theorem dX3_readSum_80 : decode cX3_readSum 80 = .ok (.invokevirtual 46, 3) := by decide +kernel
theorem dX3_readSum_83 : decode cX3_readSum 83 = .ok (.ifCond .ne 5, 3) := by decide +kernel
theorem dX3_readSum_86 : decode cX3_readSum 86 = .ok (.iconst 1, 1) := by decide +kernel
theorem dX3_readSum_87 : decode cX3_readSum 87 = .ok (.ireturn, 1) := by decide +kernel
theorem dX3_readSum_88 : decode cX3_readSum 88 = .ok (.iinc 2 1, 3) := by decide +kernel
theorem dX3_readSum_91 : decode cX3_readSum 91 = .ok (.goto (-89), 3) := by decide +kernel
theorem dX3_readSum_94 : decode cX3_readSum 94 = .ok (.aload_n 0, 1) := by decide +kernel
theorem dX3_readSum_95 : decode cX3_readSum 95 = .ok (.getfield 14, 3) := by decide +kernel
theorem dX3_readSum_98 : decode cX3_readSum 98 = .ok (.invokevirtual 50, 3) := by decide +kernel
theorem dX3_readSum_101 : decode cX3_readSum 101 = .ok (.ireturn, 1) := by decide +kernel
theorem dX4_init_0 : decode cX4_init 0 = .ok (.aload_n 0, 1) := by decide +kernel
theorem dX4_init_1 : decode cX4_init 1 = .ok (.invokespecial 3, 3) := by decide +kernel
theorem dX4_init_4 : decode cX4_init 4 = .ok (.aload_n 0, 1) := by decide +kernel
theorem dX4_init_5 : decode cX4_init 5 = .ok (.bipush 45, 2) := by decide +kernel
theorem dX4_init_7 : decode cX4_init 7 = .ok (.newarray .int, 2) := by decide +kernel
theorem dX4_init_9 : decode cX4_init 9 = .ok (.putfield 9, 3) := by decide +kernel
theorem dX4_init_12 : decode cX4_init 12 = .ok (.aload_n 0, 1) := by decide +kernel
theorem dX4_init_13 : decode cX4_init 13 = .ok (.bipush 50, 2) := by decide +kernel
theorem dX4_init_15 : decode cX4_init 15 = .ok (.newarray .int, 2) := by decide +kernel
theorem dX4_init_17 : decode cX4_init 17 = .ok (.putfield 15, 3) := by decide +kernel
theorem dX4_init_20 : decode cX4_init 20 = .ok (.aload_n 0, 1) := by decide +kernel
theorem dX4_init_21 : decode cX4_init 21 = .ok (.sipush 300, 3) := by decide +kernel
theorem dX4_init_24 : decode cX4_init 24 = .ok (.newarray .int, 2) := by decide +kernel
theorem dX4_init_26 : decode cX4_init 26 = .ok (.putfield 18, 3) := by decide +kernel
theorem dX4_init_29 : decode cX4_init 29 = .ok (.aload_n 0, 1) := by decide +kernel
theorem dX4_init_30 : decode cX4_init 30 = .ok (.iconst 2, 1) := by decide +kernel
theorem dX4_init_31 : decode cX4_init 31 = .ok (.putfield 21, 3) := by decide +kernel
theorem dX4_init_34 : decode cX4_init 34 = .ok (.aload_n 0, 1) := by decide +kernel
theorem dX4_init_35 : decode cX4_init 35 = .ok (.iconst 1, 1) := by decide +kernel
theorem dX4_init_36 : decode cX4_init 36 = .ok (.putfield 25, 3) := by decide +kernel
theorem dX4_init_39 : decode cX4_init 39 = .ok (.return_, 1) := by decide +kernel
theorem dX4_copyFrom_0 : decode cX4_copyFrom 0 = .ok (.aload_n 1, 1) := by decide +kernel
theorem dX4_copyFrom_1 : decode cX4_copyFrom 1 = .ok (.getfield 9, 3) := by decide +kernel
theorem dX4_copyFrom_4 : decode cX4_copyFrom 4 = .ok (.iconst 0, 1) := by decide +kernel
theorem dX4_copyFrom_5 : decode cX4_copyFrom 5 = .ok (.aload_n 0, 1) := by decide +kernel
theorem dX4_copyFrom_6 : decode cX4_copyFrom 6 = .ok (.getfield 9, 3) := by decide +kernel
theorem dX4_copyFrom_9 : decode cX4_copyFrom 9 = .ok (.iconst 0, 1) := by decide +kernel
theorem dX4_copyFrom_10 : decode cX4_copyFrom 10 = .ok (.aload_n 0, 1) := by decide +kernel
theorem dX4_copyFrom_11 : decode cX4_copyFrom 11 = .ok (.getfield 9, 3) := by decide +kernel
theorem dX4_copyFrom_14 : decode cX4_copyFrom 14 = .ok (.arraylength, 1) := by decide +kernel
theorem dX4_copyFrom_15 : decode cX4_copyFrom 15 = .ok (.invokestatic 28, 3) := by decide +kernel
theorem dX4_copyFrom_18 : decode cX4_copyFrom 18 = .ok (.aload_n 1, 1) := by decide +kernel
theorem dX4_copyFrom_19 : decode cX4_copyFrom 19 = .ok (.getfield 15, 3) := by decide +kernel
theorem dX4_copyFrom_22 : decode cX4_copyFrom 22 = .ok (.iconst 0, 1) := by decide +kernel
theorem dX4_copyFrom_23 : decode cX4_copyFrom 23 = .ok (.aload_n 0, 1) := by decide +kernel
theorem dX4_copyFrom_24 : decode cX4_copyFrom 24 = .ok (.getfield 15, 3) := by decide +kernel
theorem dX4_copyFrom_27 : decode cX4_copyFrom 27 = .ok (.iconst 0, 1) := by decide +kernel
theorem dX4_copyFrom_28 : decode cX4_copyFrom 28 = .ok (.aload_n 0, 1) := by decide +kernel
theorem dX4_copyFrom_29 : decode cX4_copyFrom 29 = .ok (.getfield 15, 3) := by decide +kernel
theorem dX4_copyFrom_32 : decode cX4_copyFrom 32 = .ok (.arraylength, 1) := by decide +kernel
theorem dX4_copyFrom_33 : decode cX4_copyFrom 33 = .ok (.invokestatic 28, 3) := by decide +kernel
theorem dX4_copyFrom_36 : decode cX4_copyFrom 36 = .ok (.aload_n 1, 1) := by decide +kernel
theorem dX4_copyFrom_37 : decode cX4_copyFrom 37 = .ok (.getfield 18, 3) := by decide +kernel
theorem dX4_copyFrom_40 : decode cX4_copyFrom 40 = .ok (.iconst 0, 1) := by decide +kernel
theorem dX4_copyFrom_41 : decode cX4_copyFrom 41 = .ok (.aload_n 0, 1) := by decide +kernel
theorem dX4_copyFrom_42 : decode cX4_copyFrom 42 = .ok (.getfield 18, 3) := by decide +kernel
theorem dX4_copyFrom_45 : decode cX4_copyFrom 45 = .ok (.iconst 0, 1) := by decide +kernel
theorem dX4_copyFrom_46 : decode cX4_copyFrom 46 = .ok (.aload_n 0, 1) := by decide +kernel
theorem dX4_copyFrom_47 : decode cX4_copyFrom 47 = .ok (.getfield 18, 3) := by decide +kernel
theorem dX4_copyFrom_50 : decode cX4_copyFrom 50 = .ok (.arraylength, 1) := by decide +kernel
theorem dX4_copyFrom_51 : decode cX4_copyFrom 51 = .ok (.invokestatic 28, 3) := by decide +kernel
theorem dX4_copyFrom_54 : decode cX4_copyFrom 54 = .ok (.aload_n 0, 1) := by decide +kernel
theorem dX4_copyFrom_55 : decode cX4_copyFrom 55 = .ok (.aload_n 1, 1) := by decide +kernel
theorem dX4_copyFrom_56 : decode cX4_copyFrom 56 = .ok (.getfield 34, 3) := by decide +kernel
theorem dX4_copyFrom_59 : decode cX4_copyFrom 59 = .ok (.putfield 34, 3) := by decide +kernel
theorem dX4_copyFrom_62 : decode cX4_copyFrom 62 = .ok (.aload_n 0, 1) := by decide +kernel
theorem dX4_copyFrom_63 : decode cX4_copyFrom 63 = .ok (.aload_n 1, 1) := by decide +kernel
theorem dX4_copyFrom_64 : decode cX4_copyFrom 64 = .ok (.getfield 37, 3) := by decide +kernel
theorem dX4_copyFrom_67 : decode cX4_copyFrom 67 = .ok (.putfield 37, 3) := by decide +kernel
theorem dX4_copyFrom_70 : decode cX4_copyFrom 70 = .ok (.aload_n 0, 1) := by decide +kernel
theorem dX4_copyFrom_71 : decode cX4_copyFrom 71 = .ok (.aload_n 1, 1) := by decide +kernel
theorem dX4_copyFrom_72 : decode cX4_copyFrom 72 = .ok (.getfield 40, 3) := by decide +kernel
theorem dX4_copyFrom_75 : decode cX4_copyFrom 75 = .ok (.putfield 40, 3) := by decide +kernel
theorem dX4_copyFrom_78 : decode cX4_copyFrom 78 = .ok (.aload_n 0, 1) := by decide +kernel
theorem dX4_copyFrom_79 : decode cX4_copyFrom 79 = .ok (.aload_n 1, 1) := by decide +kernel
theorem dX4_copyFrom_80 : decode cX4_copyFrom 80 = .ok (.getfield 21, 3) := by decide +kernel
theorem dX4_copyFrom_83 : decode cX4_copyFrom 83 = .ok (.putfield 21, 3) := by decide +kernel
theorem dX4_copyFrom_86 : decode cX4_copyFrom 86 = .ok (.aload_n 0, 1) := by decide +kernel
theorem dX4_copyFrom_87 : decode cX4_copyFrom 87 = .ok (.aload_n 1, 1) := by decide +kernel
theorem dX4_copyFrom_88 : decode cX4_copyFrom 88 = .ok (.getfield 43, 3) := by decide +kernel
theorem dX4_copyFrom_91 : decode cX4_copyFrom 91 = .ok (.putfield 43, 3) := by decide +kernel
theorem dX4_copyFrom_94 : decode cX4_copyFrom 94 = .ok (.aload_n 0, 1) := by decide +kernel
theorem dX4_copyFrom_95 : decode cX4_copyFrom 95 = .ok (.aload_n 1, 1) := by decide +kernel
theorem dX4_copyFrom_96 : decode cX4_copyFrom 96 = .ok (.getfield 25, 3) := by decide +kernel
theorem dX4_copyFrom_99 : decode cX4_copyFrom 99 = .ok (.putfield 25, 3) := by decide +kernel
theorem dX4_copyFrom_102 : decode cX4_copyFrom 102 = .ok (.aload_n 0, 1) := by decide +kernel
theorem dX4_copyFrom_103 : decode cX4_copyFrom 103 = .ok (.aload_n 1, 1) := by decide +kernel
theorem dX4_copyFrom_104 : decode cX4_copyFrom 104 = .ok (.getfield 46, 3) := by decide +kernel
theorem dX4_copyFrom_107 : decode cX4_copyFrom 107 = .ok (.putfield 46, 3) := by decide +kernel
theorem dX4_copyFrom_110 : decode cX4_copyFrom 110 = .ok (.return_, 1) := by decide +kernel
theorem dX4_ofThing_0 : decode cX4_ofThing 0 = .ok (.aload_n 0, 1) := by decide +kernel
theorem dX4_ofThing_1 : decode cX4_ofThing 1 = .ok (.getfield 9, 3) := by decide +kernel
theorem dX4_ofThing_4 : decode cX4_ofThing 4 = .ok (.iload_n 1, 1) := by decide +kernel
theorem dX4_ofThing_5 : decode cX4_ofThing 5 = .ok (.iconst 5, 1) := by decide +kernel
theorem dX4_ofThing_6 : decode cX4_ofThing 6 = .ok (.imul, 1) := by decide +kernel
theorem dX4_ofThing_7 : decode cX4_ofThing 7 = .ok (.iload_n 2, 1) := by decide +kernel
theorem dX4_ofThing_8 : decode cX4_ofThing 8 = .ok (.iadd, 1) := by decide +kernel
theorem dX4_ofThing_9 : decode cX4_ofThing 9 = .ok (.invokestatic 49, 3) := by decide +kernel
theorem dX4_ofThing_12 : decode cX4_ofThing 12 = .ok (.ireturn, 1) := by decide +kernel
theorem dX4_setThing_0 : decode cX4_setThing 0 = .ok (.aload_n 0, 1) := by decide +kernel
theorem dX4_setThing_1 : decode cX4_setThing 1 = .ok (.getfield 9, 3) := by decide +kernel
theorem dX4_setThing_4 : decode cX4_setThing 4 = .ok (.iload_n 1, 1) := by decide +kernel
theorem dX4_setThing_5 : decode cX4_setThing 5 = .ok (.iconst 5, 1) := by decide +kernel
theorem dX4_setThing_6 : decode cX4_setThing 6 = .ok (.imul, 1) := by decide +kernel
theorem dX4_setThing_7 : decode cX4_setThing 7 = .ok (.iload_n 2, 1) := by decide +kernel
theorem dX4_setThing_8 : decode cX4_setThing 8 = .ok (.iadd, 1) := by decide +kernel
theorem dX4_setThing_9 : decode cX4_setThing 9 = .ok (.iload_n 3, 1) := by decide +kernel
theorem dX4_setThing_10 : decode cX4_setThing 10 = .ok (.invokestatic 53, 3) := by decide +kernel
theorem dX4_setThing_13 : decode cX4_setThing 13 = .ok (.return_, 1) := by decide +kernel
theorem dX4_ofVisitor_0 : decode cX4_ofVisitor 0 = .ok (.aload_n 0, 1) := by decide +kernel
theorem dX4_ofVisitor_1 : decode cX4_ofVisitor 1 = .ok (.getfield 15, 3) := by decide +kernel
theorem dX4_ofVisitor_4 : decode cX4_ofVisitor 4 = .ok (.iload_n 1, 1) := by decide +kernel
theorem dX4_ofVisitor_5 : decode cX4_ofVisitor 5 = .ok (.iconst 5, 1) := by decide +kernel
theorem dX4_ofVisitor_6 : decode cX4_ofVisitor 6 = .ok (.imul, 1) := by decide +kernel
theorem dX4_ofVisitor_7 : decode cX4_ofVisitor 7 = .ok (.iload_n 2, 1) := by decide +kernel
theorem dX4_ofVisitor_8 : decode cX4_ofVisitor 8 = .ok (.iadd, 1) := by decide +kernel
theorem dX4_ofVisitor_9 : decode cX4_ofVisitor 9 = .ok (.invokestatic 49, 3) := by decide +kernel
theorem dX4_ofVisitor_12 : decode cX4_ofVisitor 12 = .ok (.ireturn, 1) := by decide +kernel
theorem dX4_setVisitor_0 : decode cX4_setVisitor 0 = .ok (.aload_n 0, 1) := by decide +kernel
theorem dX4_setVisitor_1 : decode cX4_setVisitor 1 = .ok (.getfield 15, 3) := by decide +kernel
theorem dX4_setVisitor_4 : decode cX4_setVisitor 4 = .ok (.iload_n 1, 1) := by decide +kernel
theorem dX4_setVisitor_5 : decode cX4_setVisitor 5 = .ok (.iconst 5, 1) := by decide +kernel
theorem dX4_setVisitor_6 : decode cX4_setVisitor 6 = .ok (.imul, 1) := by decide +kernel
theorem dX4_setVisitor_7 : decode cX4_setVisitor 7 = .ok (.iload_n 2, 1) := by decide +kernel
theorem dX4_setVisitor_8 : decode cX4_setVisitor 8 = .ok (.iadd, 1) := by decide +kernel
theorem dX4_setVisitor_9 : decode cX4_setVisitor 9 = .ok (.iload_n 3, 1) := by decide +kernel
theorem dX4_setVisitor_10 : decode cX4_setVisitor 10 = .ok (.invokestatic 53, 3) := by decide +kernel
theorem dX4_setVisitor_13 : decode cX4_setVisitor 13 = .ok (.return_, 1) := by decide +kernel
theorem dX4_thingAt_0 : decode cX4_thingAt 0 = .ok (.iconst 0, 1) := by decide +kernel
theorem dX4_thingAt_1 : decode cX4_thingAt 1 = .ok (.istore_n 2, 1) := by decide +kernel
theorem dX4_thingAt_2 : decode cX4_thingAt 2 = .ok (.iload_n 2, 1) := by decide +kernel
theorem dX4_thingAt_3 : decode cX4_thingAt 3 = .ok (.aload_n 0, 1) := by decide +kernel
theorem dX4_thingAt_4 : decode cX4_thingAt 4 = .ok (.getfield 34, 3) := by decide +kernel
theorem dX4_thingAt_7 : decode cX4_thingAt 7 = .ok (.if_icmp .ge 27, 3) := by decide +kernel
theorem dX4_thingAt_10 : decode cX4_thingAt 10 = .ok (.aload_n 0, 1) := by decide +kernel
theorem dX4_thingAt_11 : decode cX4_thingAt 11 = .ok (.getfield 9, 3) := by decide +kernel
theorem dX4_thingAt_14 : decode cX4_thingAt 14 = .ok (.iload_n 2, 1) := by decide +kernel
theorem dX4_thingAt_15 : decode cX4_thingAt 15 = .ok (.iconst 5, 1) := by decide +kernel
theorem dX4_thingAt_16 : decode cX4_thingAt 16 = .ok (.imul, 1) := by decide +kernel
theorem dX4_thingAt_17 : decode cX4_thingAt 17 = .ok (.iconst 0, 1) := by decide +kernel
theorem dX4_thingAt_18 : decode cX4_thingAt 18 = .ok (.iadd, 1) := by decide +kernel
theorem dX4_thingAt_19 : decode cX4_thingAt 19 = .ok (.invokestatic 49, 3) := by decide +kernel
theorem dX4_thingAt_22 : decode cX4_thingAt 22 = .ok (.iload_n 1, 1) := by decide +kernel
theorem dX4_thingAt_23 : decode cX4_thingAt 23 = .ok (.if_icmp .ne 5, 3) := by decide +kernel
theorem dX4_thingAt_26 : decode cX4_thingAt 26 = .ok (.iload_n 2, 1) := by decide +kernel
theorem dX4_thingAt_27 : decode cX4_thingAt 27 = .ok (.ireturn, 1) := by decide +kernel
theorem dX4_thingAt_28 : decode cX4_thingAt 28 = .ok (.iinc 2 1, 3) := by decide +kernel
theorem dX4_thingAt_31 : decode cX4_thingAt 31 = .ok (.goto (-29), 3) := by decide +kernel
theorem dX4_thingAt_34 : decode cX4_thingAt 34 = .ok (.iconst (-1), 1) := by decide +kernel
theorem dX4_thingAt_35 : decode cX4_thingAt 35 = .ok (.ireturn, 1) := by decide +kernel
theorem dX4_stepOf_0 : decode cX4_stepOf 0 = .ok (.aload_n 0, 1) := by decide +kernel
theorem dX4_stepOf_1 : decode cX4_stepOf 1 = .ok (.getfield 21, 3) := by decide +kernel
theorem dX4_stepOf_4 : decode cX4_stepOf 4 = .ok (.ifCond .le 12, 3) := by decide +kernel
theorem dX4_stepOf_7 : decode cX4_stepOf 7 = .ok (.iload_n 1, 1) := by decide +kernel
theorem dX4_stepOf_8 : decode cX4_stepOf 8 = .ok (.aload_n 0, 1) := by decide +kernel
theorem dX4_stepOf_9 : decode cX4_stepOf 9 = .ok (.getfield 21, 3) := by decide +kernel
theorem dX4_stepOf_12 : decode cX4_stepOf 12 = .ok (.idiv, 1) := by decide +kernel
theorem dX4_stepOf_13 : decode cX4_stepOf 13 = .ok (.goto 4, 3) := by decide +kernel
theorem dX4_stepOf_16 : decode cX4_stepOf 16 = .ok (.iconst 0, 1) := by decide +kernel
theorem dX4_stepOf_17 : decode cX4_stepOf 17 = .ok (.ireturn, 1) := by decide +kernel
theorem dX4_rings_0 : decode cX4_rings 0 = .ok (.aload_n 0, 1) := by decide +kernel
theorem dX4_rings_1 : decode cX4_rings 1 = .ok (.iload_n 1, 1) := by decide +kernel
theorem dX4_rings_2 : decode cX4_rings 2 = .ok (.iconst 3, 1) := by decide +kernel
theorem dX4_rings_3 : decode cX4_rings 3 = .ok (.invokevirtual 57, 3) := by decide +kernel
theorem dX4_rings_6 : decode cX4_rings 6 = .ok (.iconst 1, 1) := by decide +kernel
theorem dX4_rings_7 : decode cX4_rings 7 = .ok (.if_icmp .ne 28, 3) := by decide +kernel
theorem dX4_rings_10 : decode cX4_rings 10 = .ok (.iload_n 2, 1) := by decide +kernel
theorem dX4_rings_11 : decode cX4_rings 11 = .ok (.ifCond .le 24, 3) := by decide +kernel
theorem dX4_rings_14 : decode cX4_rings 14 = .ok (.iload_n 2, 1) := by decide +kernel
theorem dX4_rings_15 : decode cX4_rings 15 = .ok (.aload_n 0, 1) := by decide +kernel
theorem dX4_rings_16 : decode cX4_rings 16 = .ok (.iload_n 1, 1) := by decide +kernel
theorem dX4_rings_17 : decode cX4_rings 17 = .ok (.iconst 1, 1) := by decide +kernel
theorem dX4_rings_18 : decode cX4_rings 18 = .ok (.invokevirtual 57, 3) := by decide +kernel
theorem dX4_rings_21 : decode cX4_rings 21 = .ok (.aload_n 0, 1) := by decide +kernel
theorem dX4_rings_22 : decode cX4_rings 22 = .ok (.iload_n 1, 1) := by decide +kernel
theorem dX4_rings_23 : decode cX4_rings 23 = .ok (.iconst 4, 1) := by decide +kernel
theorem dX4_rings_24 : decode cX4_rings 24 = .ok (.invokevirtual 57, 3) := by decide +kernel
theorem dX4_rings_27 : decode cX4_rings 27 = .ok (.isub, 1) := by decide +kernel
theorem dX4_rings_28 : decode cX4_rings 28 = .ok (.if_icmp .lt 7, 3) := by decide +kernel
theorem dX4_rings_31 : decode cX4_rings 31 = .ok (.iconst 1, 1) := by decide +kernel
theorem dX4_rings_32 : decode cX4_rings 32 = .ok (.goto 4, 3) := by decide +kernel
theorem dX4_rings_35 : decode cX4_rings 35 = .ok (.iconst 0, 1) := by decide +kernel
theorem dX4_rings_36 : decode cX4_rings 36 = .ok (.ireturn, 1) := by decide +kernel
theorem dX4_addThing_0 : decode cX4_addThing 0 = .ok (.aload_n 0, 1) := by decide +kernel
theorem dX4_addThing_1 : decode cX4_addThing 1 = .ok (.getfield 34, 3) := by decide +kernel
theorem dX4_addThing_4 : decode cX4_addThing 4 = .ok (.istore 4, 2) := by decide +kernel
theorem dX4_addThing_6 : decode cX4_addThing 6 = .ok (.aload_n 0, 1) := by decide +kernel
theorem dX4_addThing_7 : decode cX4_addThing 7 = .ok (.dup, 1) := by decide +kernel
theorem dX4_addThing_8 : decode cX4_addThing 8 = .ok (.getfield 34, 3) := by decide +kernel
theorem dX4_addThing_11 : decode cX4_addThing 11 = .ok (.iconst 1, 1) := by decide +kernel
theorem dX4_addThing_12 : decode cX4_addThing 12 = .ok (.iadd, 1) := by decide +kernel
theorem dX4_addThing_13 : decode cX4_addThing 13 = .ok (.putfield 34, 3) := by decide +kernel
theorem dX4_addThing_16 : decode cX4_addThing 16 = .ok (.aload_n 0, 1) := by decide +kernel
theorem dX4_addThing_17 : decode cX4_addThing 17 = .ok (.iload 4, 2) := by decide +kernel
theorem dX4_addThing_19 : decode cX4_addThing 19 = .ok (.iconst 0, 1) := by decide +kernel
theorem dX4_addThing_20 : decode cX4_addThing 20 = .ok (.iload_n 1, 1) := by decide +kernel
theorem dX4_addThing_21 : decode cX4_addThing 21 = .ok (.invokevirtual 61, 3) := by decide +kernel
theorem dX4_addThing_24 : decode cX4_addThing 24 = .ok (.aload_n 0, 1) := by decide +kernel
theorem dX4_addThing_25 : decode cX4_addThing 25 = .ok (.iload 4, 2) := by decide +kernel
theorem dX4_addThing_27 : decode cX4_addThing 27 = .ok (.iconst 1, 1) := by decide +kernel
theorem dX4_addThing_28 : decode cX4_addThing 28 = .ok (.iload_n 2, 1) := by decide +kernel
theorem dX4_addThing_29 : decode cX4_addThing 29 = .ok (.invokevirtual 61, 3) := by decide +kernel
theorem dX4_addThing_32 : decode cX4_addThing 32 = .ok (.aload_n 0, 1) := by decide +kernel
theorem dX4_addThing_33 : decode cX4_addThing 33 = .ok (.iload 4, 2) := by decide +kernel
theorem dX4_addThing_35 : decode cX4_addThing 35 = .ok (.iconst 2, 1) := by decide +kernel
theorem dX4_addThing_36 : decode cX4_addThing 36 = .ok (.iload_n 3, 1) := by decide +kernel
theorem dX4_addThing_37 : decode cX4_addThing 37 = .ok (.invokevirtual 61, 3) := by decide +kernel
theorem dX4_addThing_40 : decode cX4_addThing 40 = .ok (.aload_n 0, 1) := by decide +kernel
theorem dX4_addThing_41 : decode cX4_addThing 41 = .ok (.iload 4, 2) := by decide +kernel
theorem dX4_addThing_43 : decode cX4_addThing 43 = .ok (.iconst 3, 1) := by decide +kernel
theorem dX4_addThing_44 : decode cX4_addThing 44 = .ok (.iconst 1, 1) := by decide +kernel
theorem dX4_addThing_45 : decode cX4_addThing 45 = .ok (.invokevirtual 61, 3) := by decide +kernel
theorem dX4_addThing_48 : decode cX4_addThing 48 = .ok (.aload_n 0, 1) := by decide +kernel
theorem dX4_addThing_49 : decode cX4_addThing 49 = .ok (.iload 4, 2) := by decide +kernel
theorem dX4_addThing_51 : decode cX4_addThing 51 = .ok (.iconst 4, 1) := by decide +kernel
theorem dX4_addThing_52 : decode cX4_addThing 52 = .ok (.iconst 0, 1) := by decide +kernel
theorem dX4_addThing_53 : decode cX4_addThing 53 = .ok (.invokevirtual 61, 3) := by decide +kernel
theorem dX4_addThing_56 : decode cX4_addThing 56 = .ok (.return_, 1) := by decide +kernel
theorem dX4_swapCells_0 : decode cX4_swapCells 0 = .ok (.aload_n 0, 1) := by decide +kernel
theorem dX4_swapCells_1 : decode cX4_swapCells 1 = .ok (.iload_n 1, 1) := by decide +kernel
theorem dX4_swapCells_2 : decode cX4_swapCells 2 = .ok (.iconst 0, 1) := by decide +kernel
theorem dX4_swapCells_3 : decode cX4_swapCells 3 = .ok (.invokevirtual 57, 3) := by decide +kernel
theorem dX4_swapCells_6 : decode cX4_swapCells 6 = .ok (.istore_n 3, 1) := by decide +kernel
theorem dX4_swapCells_7 : decode cX4_swapCells 7 = .ok (.aload_n 0, 1) := by decide +kernel
theorem dX4_swapCells_8 : decode cX4_swapCells 8 = .ok (.iload_n 1, 1) := by decide +kernel
theorem dX4_swapCells_9 : decode cX4_swapCells 9 = .ok (.iconst 0, 1) := by decide +kernel
theorem dX4_swapCells_10 : decode cX4_swapCells 10 = .ok (.aload_n 0, 1) := by decide +kernel
theorem dX4_swapCells_11 : decode cX4_swapCells 11 = .ok (.iload_n 2, 1) := by decide +kernel
theorem dX4_swapCells_12 : decode cX4_swapCells 12 = .ok (.iconst 0, 1) := by decide +kernel
theorem dX4_swapCells_13 : decode cX4_swapCells 13 = .ok (.invokevirtual 57, 3) := by decide +kernel
theorem dX4_swapCells_16 : decode cX4_swapCells 16 = .ok (.invokevirtual 61, 3) := by decide +kernel
theorem dX4_swapCells_19 : decode cX4_swapCells 19 = .ok (.aload_n 0, 1) := by decide +kernel
theorem dX4_swapCells_20 : decode cX4_swapCells 20 = .ok (.iload_n 2, 1) := by decide +kernel
theorem dX4_swapCells_21 : decode cX4_swapCells 21 = .ok (.iconst 0, 1) := by decide +kernel
theorem dX4_swapCells_22 : decode cX4_swapCells 22 = .ok (.iload_n 3, 1) := by decide +kernel
theorem dX4_swapCells_23 : decode cX4_swapCells 23 = .ok (.invokevirtual 61, 3) := by decide +kernel
theorem dX4_swapCells_26 : decode cX4_swapCells 26 = .ok (.return_, 1) := by decide +kernel
theorem dX4_swapVisitors_0 : decode cX4_swapVisitors 0 = .ok (.iconst 0, 1) := by decide +kernel
theorem dX4_swapVisitors_1 : decode cX4_swapVisitors 1 = .ok (.istore_n 3, 1) := by decide +kernel
theorem dX4_swapVisitors_2 : decode cX4_swapVisitors 2 = .ok (.iload_n 3, 1) := by decide +kernel
theorem dX4_swapVisitors_3 : decode cX4_swapVisitors 3 = .ok (.iconst 5, 1) := by decide +kernel
theorem dX4_swapVisitors_4 : decode cX4_swapVisitors 4 = .ok (.if_icmp .ge 37, 3) := by decide +kernel
theorem dX4_swapVisitors_7 : decode cX4_swapVisitors 7 = .ok (.aload_n 0, 1) := by decide +kernel
theorem dX4_swapVisitors_8 : decode cX4_swapVisitors 8 = .ok (.iload_n 1, 1) := by decide +kernel
theorem dX4_swapVisitors_9 : decode cX4_swapVisitors 9 = .ok (.iload_n 3, 1) := by decide +kernel
theorem dX4_swapVisitors_10 : decode cX4_swapVisitors 10 = .ok (.invokevirtual 65, 3) := by decide +kernel
theorem dX4_swapVisitors_13 : decode cX4_swapVisitors 13 = .ok (.istore 4, 2) := by decide +kernel
theorem dX4_swapVisitors_15 : decode cX4_swapVisitors 15 = .ok (.aload_n 0, 1) := by decide +kernel
theorem dX4_swapVisitors_16 : decode cX4_swapVisitors 16 = .ok (.iload_n 1, 1) := by decide +kernel
theorem dX4_swapVisitors_17 : decode cX4_swapVisitors 17 = .ok (.iload_n 3, 1) := by decide +kernel
theorem dX4_swapVisitors_18 : decode cX4_swapVisitors 18 = .ok (.aload_n 0, 1) := by decide +kernel
theorem dX4_swapVisitors_19 : decode cX4_swapVisitors 19 = .ok (.iload_n 2, 1) := by decide +kernel
theorem dX4_swapVisitors_20 : decode cX4_swapVisitors 20 = .ok (.iload_n 3, 1) := by decide +kernel
theorem dX4_swapVisitors_21 : decode cX4_swapVisitors 21 = .ok (.invokevirtual 65, 3) := by decide +kernel
theorem dX4_swapVisitors_24 : decode cX4_swapVisitors 24 = .ok (.invokevirtual 68, 3) := by decide +kernel
theorem dX4_swapVisitors_27 : decode cX4_swapVisitors 27 = .ok (.aload_n 0, 1) := by decide +kernel
theorem dX4_swapVisitors_28 : decode cX4_swapVisitors 28 = .ok (.iload_n 2, 1) := by decide +kernel
theorem dX4_swapVisitors_29 : decode cX4_swapVisitors 29 = .ok (.iload_n 3, 1) := by decide +kernel
theorem dX4_swapVisitors_30 : decode cX4_swapVisitors 30 = .ok (.iload 4, 2) := by decide +kernel
theorem dX4_swapVisitors_32 : decode cX4_swapVisitors 32 = .ok (.invokevirtual 68, 3) := by decide +kernel
theorem dX4_swapVisitors_35 : decode cX4_swapVisitors 35 = .ok (.iinc 3 1, 3) := by decide +kernel
theorem dX4_swapVisitors_38 : decode cX4_swapVisitors 38 = .ok (.goto (-36), 3) := by decide +kernel
theorem dX4_swapVisitors_41 : decode cX4_swapVisitors 41 = .ok (.return_, 1) := by decide +kernel
theorem dX4_drawsAway_0 : decode cX4_drawsAway 0 = .ok (.aload_n 0, 1) := by decide +kernel
theorem dX4_drawsAway_1 : decode cX4_drawsAway 1 = .ok (.aload_n 0, 1) := by decide +kernel
theorem dX4_drawsAway_2 : decode cX4_drawsAway 2 = .ok (.getfield 25, 3) := by decide +kernel
theorem dX4_drawsAway_5 : decode cX4_drawsAway 5 = .ok (.ldc 71, 2) := by decide +kernel
theorem dX4_drawsAway_7 : decode cX4_drawsAway 7 = .ok (.imul, 1) := by decide +kernel
theorem dX4_drawsAway_8 : decode cX4_drawsAway 8 = .ok (.sipush 12345, 3) := by decide +kernel
theorem dX4_drawsAway_11 : decode cX4_drawsAway 11 = .ok (.iadd, 1) := by decide +kernel
theorem dX4_drawsAway_12 : decode cX4_drawsAway 12 = .ok (.putfield 25, 3) := by decide +kernel
theorem dX4_drawsAway_15 : decode cX4_drawsAway 15 = .ok (.aload_n 0, 1) := by decide +kernel
theorem dX4_drawsAway_16 : decode cX4_drawsAway 16 = .ok (.getfield 25, 3) := by decide +kernel
theorem dX4_drawsAway_19 : decode cX4_drawsAway 19 = .ok (.bipush 16, 2) := by decide +kernel
theorem dX4_drawsAway_21 : decode cX4_drawsAway 21 = .ok (.iushr, 1) := by decide +kernel
theorem dX4_drawsAway_22 : decode cX4_drawsAway 22 = .ok (.sipush 32767, 3) := by decide +kernel
theorem dX4_drawsAway_25 : decode cX4_drawsAway 25 = .ok (.iand, 1) := by decide +kernel
theorem dX4_drawsAway_26 : decode cX4_drawsAway 26 = .ok (.bipush 100, 2) := by decide +kernel
theorem dX4_drawsAway_28 : decode cX4_drawsAway 28 = .ok (.irem, 1) := by decide +kernel
theorem dX4_drawsAway_29 : decode cX4_drawsAway 29 = .ok (.aload_n 0, 1) := by decide +kernel
theorem dX4_drawsAway_30 : decode cX4_drawsAway 30 = .ok (.iload_n 1, 1) := by decide +kernel
theorem dX4_drawsAway_31 : decode cX4_drawsAway 31 = .ok (.iconst 3, 1) := by decide +kernel
theorem dX4_drawsAway_32 : decode cX4_drawsAway 32 = .ok (.invokevirtual 65, 3) := by decide +kernel
theorem dX4_drawsAway_35 : decode cX4_drawsAway 35 = .ok (.if_icmp .ge 7, 3) := by decide +kernel
theorem dX4_drawsAway_38 : decode cX4_drawsAway 38 = .ok (.iconst 1, 1) := by decide +kernel
theorem dX4_drawsAway_39 : decode cX4_drawsAway 39 = .ok (.goto 4, 3) := by decide +kernel
theorem dX4_drawsAway_42 : decode cX4_drawsAway 42 = .ok (.iconst 0, 1) := by decide +kernel
theorem dX4_drawsAway_43 : decode cX4_drawsAway 43 = .ok (.ireturn, 1) := by decide +kernel
theorem dX4_note_0 : decode cX4_note 0 = .ok (.aload_n 0, 1) := by decide +kernel
theorem dX4_note_1 : decode cX4_note 1 = .ok (.getfield 46, 3) := by decide +kernel
theorem dX4_note_4 : decode cX4_note 4 = .ok (.bipush 60, 2) := by decide +kernel
theorem dX4_note_6 : decode cX4_note 6 = .ok (.irem, 1) := by decide +kernel
theorem dX4_note_7 : decode cX4_note 7 = .ok (.iconst 5, 1) := by decide +kernel
theorem dX4_note_8 : decode cX4_note 8 = .ok (.imul, 1) := by decide +kernel
theorem dX4_note_9 : decode cX4_note 9 = .ok (.istore 4, 2) := by decide +kernel
theorem dX4_note_11 : decode cX4_note 11 = .ok (.aload_n 0, 1) := by decide +kernel
theorem dX4_note_12 : decode cX4_note 12 = .ok (.getfield 18, 3) := by decide +kernel
theorem dX4_note_15 : decode cX4_note 15 = .ok (.iload 4, 2) := by decide +kernel
theorem dX4_note_17 : decode cX4_note 17 = .ok (.aload_n 0, 1) := by decide +kernel
theorem dX4_note_18 : decode cX4_note 18 = .ok (.getfield 43, 3) := by decide +kernel
theorem dX4_note_21 : decode cX4_note 21 = .ok (.invokestatic 53, 3) := by decide +kernel
theorem dX4_note_24 : decode cX4_note 24 = .ok (.aload_n 0, 1) := by decide +kernel
theorem dX4_note_25 : decode cX4_note 25 = .ok (.getfield 18, 3) := by decide +kernel
theorem dX4_note_28 : decode cX4_note 28 = .ok (.iload 4, 2) := by decide +kernel
theorem dX4_note_30 : decode cX4_note 30 = .ok (.iconst 1, 1) := by decide +kernel
theorem dX4_note_31 : decode cX4_note 31 = .ok (.iadd, 1) := by decide +kernel
theorem dX4_note_32 : decode cX4_note 32 = .ok (.iload_n 1, 1) := by decide +kernel
theorem dX4_note_33 : decode cX4_note 33 = .ok (.invokestatic 53, 3) := by decide +kernel
theorem dX4_note_36 : decode cX4_note 36 = .ok (.aload_n 0, 1) := by decide +kernel
theorem dX4_note_37 : decode cX4_note 37 = .ok (.getfield 18, 3) := by decide +kernel
theorem dX4_note_40 : decode cX4_note 40 = .ok (.iload 4, 2) := by decide +kernel
theorem dX4_note_42 : decode cX4_note 42 = .ok (.iconst 2, 1) := by decide +kernel
theorem dX4_note_43 : decode cX4_note 43 = .ok (.iadd, 1) := by decide +kernel
theorem dX4_note_44 : decode cX4_note 44 = .ok (.iload_n 2, 1) := by decide +kernel
theorem dX4_note_45 : decode cX4_note 45 = .ok (.invokestatic 53, 3) := by decide +kernel
theorem dX4_note_48 : decode cX4_note 48 = .ok (.aload_n 0, 1) := by decide +kernel
theorem dX4_note_49 : decode cX4_note 49 = .ok (.getfield 18, 3) := by decide +kernel
theorem dX4_note_52 : decode cX4_note 52 = .ok (.iload 4, 2) := by decide +kernel
theorem dX4_note_54 : decode cX4_note 54 = .ok (.iconst 3, 1) := by decide +kernel
theorem dX4_note_55 : decode cX4_note 55 = .ok (.iadd, 1) := by decide +kernel
theorem dX4_note_56 : decode cX4_note 56 = .ok (.iload_n 3, 1) := by decide +kernel
theorem dX4_note_57 : decode cX4_note 57 = .ok (.invokestatic 53, 3) := by decide +kernel
theorem dX4_note_60 : decode cX4_note 60 = .ok (.aload_n 0, 1) := by decide +kernel
theorem dX4_note_61 : decode cX4_note 61 = .ok (.getfield 18, 3) := by decide +kernel
theorem dX4_note_64 : decode cX4_note 64 = .ok (.iload 4, 2) := by decide +kernel
theorem dX4_note_66 : decode cX4_note 66 = .ok (.iconst 4, 1) := by decide +kernel
theorem dX4_note_67 : decode cX4_note 67 = .ok (.iadd, 1) := by decide +kernel
theorem dX4_note_68 : decode cX4_note 68 = .ok (.aload_n 0, 1) := by decide +kernel
theorem dX4_note_69 : decode cX4_note 69 = .ok (.aload_n 0, 1) := by decide +kernel
theorem dX4_note_70 : decode cX4_note 70 = .ok (.iload_n 2, 1) := by decide +kernel
theorem dX4_note_71 : decode cX4_note 71 = .ok (.iconst 0, 1) := by decide +kernel
theorem dX4_note_72 : decode cX4_note 72 = .ok (.invokevirtual 57, 3) := by decide +kernel
theorem dX4_note_75 : decode cX4_note 75 = .ok (.invokevirtual 72, 3) := by decide +kernel
theorem dX4_note_78 : decode cX4_note 78 = .ok (.invokestatic 53, 3) := by decide +kernel
theorem dX4_note_81 : decode cX4_note 81 = .ok (.aload_n 0, 1) := by decide +kernel
theorem dX4_note_82 : decode cX4_note 82 = .ok (.dup, 1) := by decide +kernel
theorem dX4_note_83 : decode cX4_note 83 = .ok (.getfield 46, 3) := by decide +kernel
theorem dX4_note_86 : decode cX4_note 86 = .ok (.iconst 1, 1) := by decide +kernel
theorem dX4_note_87 : decode cX4_note 87 = .ok (.iadd, 1) := by decide +kernel
theorem dX4_note_88 : decode cX4_note 88 = .ok (.putfield 46, 3) := by decide +kernel
theorem dX4_note_91 : decode cX4_note 91 = .ok (.return_, 1) := by decide +kernel
theorem dX4_logRows_0 : decode cX4_logRows 0 = .ok (.aload_n 0, 1) := by decide +kernel
theorem dX4_logRows_1 : decode cX4_logRows 1 = .ok (.getfield 46, 3) := by decide +kernel
theorem dX4_logRows_4 : decode cX4_logRows 4 = .ok (.bipush 60, 2) := by decide +kernel
theorem dX4_logRows_6 : decode cX4_logRows 6 = .ok (.invokestatic 76, 3) := by decide +kernel
theorem dX4_logRows_9 : decode cX4_logRows 9 = .ok (.ireturn, 1) := by decide +kernel
theorem dX4_logged_0 : decode cX4_logged 0 = .ok (.aload_n 0, 1) := by decide +kernel
theorem dX4_logged_1 : decode cX4_logged 1 = .ok (.getfield 18, 3) := by decide +kernel
theorem dX4_logged_4 : decode cX4_logged 4 = .ok (.aload_n 0, 1) := by decide +kernel
theorem dX4_logged_5 : decode cX4_logged 5 = .ok (.getfield 46, 3) := by decide +kernel
theorem dX4_logged_8 : decode cX4_logged 8 = .ok (.iconst 1, 1) := by decide +kernel
theorem dX4_logged_9 : decode cX4_logged 9 = .ok (.isub, 1) := by decide +kernel
theorem dX4_logged_10 : decode cX4_logged 10 = .ok (.iload_n 1, 1) := by decide +kernel
theorem dX4_logged_11 : decode cX4_logged 11 = .ok (.isub, 1) := by decide +kernel
theorem dX4_logged_12 : decode cX4_logged 12 = .ok (.bipush 60, 2) := by decide +kernel
theorem dX4_logged_14 : decode cX4_logged 14 = .ok (.irem, 1) := by decide +kernel
theorem dX4_logged_15 : decode cX4_logged 15 = .ok (.iconst 5, 1) := by decide +kernel
theorem dX4_logged_16 : decode cX4_logged 16 = .ok (.imul, 1) := by decide +kernel
theorem dX4_logged_17 : decode cX4_logged 17 = .ok (.iload_n 2, 1) := by decide +kernel
theorem dX4_logged_18 : decode cX4_logged 18 = .ok (.iadd, 1) := by decide +kernel
theorem dX4_logged_19 : decode cX4_logged 19 = .ok (.invokestatic 49, 3) := by decide +kernel
theorem dX4_logged_22 : decode cX4_logged 22 = .ok (.ireturn, 1) := by decide +kernel
theorem dX4_timesLed_0 : decode cX4_timesLed 0 = .ok (.iconst 0, 1) := by decide +kernel
theorem dX4_timesLed_1 : decode cX4_timesLed 1 = .ok (.istore_n 3, 1) := by decide +kernel
theorem dX4_timesLed_2 : decode cX4_timesLed 2 = .ok (.iconst 0, 1) := by decide +kernel
theorem dX4_timesLed_3 : decode cX4_timesLed 3 = .ok (.istore 4, 2) := by decide +kernel
theorem dX4_timesLed_5 : decode cX4_timesLed 5 = .ok (.iload 4, 2) := by decide +kernel
theorem dX4_timesLed_7 : decode cX4_timesLed 7 = .ok (.aload_n 0, 1) := by decide +kernel
theorem dX4_timesLed_8 : decode cX4_timesLed 8 = .ok (.invokevirtual 81, 3) := by decide +kernel
theorem dX4_timesLed_11 : decode cX4_timesLed 11 = .ok (.if_icmp .ge 34, 3) := by decide +kernel
theorem dX4_timesLed_14 : decode cX4_timesLed 14 = .ok (.aload_n 0, 1) := by decide +kernel
theorem dX4_timesLed_15 : decode cX4_timesLed 15 = .ok (.iload 4, 2) := by decide +kernel
theorem dX4_timesLed_17 : decode cX4_timesLed 17 = .ok (.iconst 1, 1) := by decide +kernel
theorem dX4_timesLed_18 : decode cX4_timesLed 18 = .ok (.invokevirtual 85, 3) := by decide +kernel
theorem dX4_timesLed_21 : decode cX4_timesLed 21 = .ok (.iload_n 1, 1) := by decide +kernel
theorem dX4_timesLed_22 : decode cX4_timesLed 22 = .ok (.if_icmp .ne 17, 3) := by decide +kernel
theorem dX4_timesLed_25 : decode cX4_timesLed 25 = .ok (.aload_n 0, 1) := by decide +kernel
theorem dX4_timesLed_26 : decode cX4_timesLed 26 = .ok (.iload 4, 2) := by decide +kernel
theorem dX4_timesLed_28 : decode cX4_timesLed 28 = .ok (.iconst 2, 1) := by decide +kernel
theorem dX4_timesLed_29 : decode cX4_timesLed 29 = .ok (.invokevirtual 85, 3) := by decide +kernel
theorem dX4_timesLed_32 : decode cX4_timesLed 32 = .ok (.iload_n 2, 1) := by decide +kernel
theorem dX4_timesLed_33 : decode cX4_timesLed 33 = .ok (.if_icmp .ne 6, 3) := by decide +kernel
theorem dX4_timesLed_36 : decode cX4_timesLed 36 = .ok (.iinc 3 1, 3) := by decide +kernel
theorem dX4_timesLed_39 : decode cX4_timesLed 39 = .ok (.iinc 4 1, 3) := by decide +kernel
theorem dX4_timesLed_42 : decode cX4_timesLed 42 = .ok (.goto (-37), 3) := by decide +kernel
theorem dX4_timesLed_45 : decode cX4_timesLed 45 = .ok (.iload_n 3, 1) := by decide +kernel
theorem dX4_timesLed_46 : decode cX4_timesLed 46 = .ok (.ireturn, 1) := by decide +kernel
theorem dX4_shownThings_0 : decode cX4_shownThings 0 = .ok (.iconst 0, 1) := by decide +kernel
theorem dX4_shownThings_1 : decode cX4_shownThings 1 = .ok (.istore_n 1, 1) := by decide +kernel
theorem dX4_shownThings_2 : decode cX4_shownThings 2 = .ok (.iconst 0, 1) := by decide +kernel
theorem dX4_shownThings_3 : decode cX4_shownThings 3 = .ok (.istore_n 2, 1) := by decide +kernel
theorem dX4_shownThings_4 : decode cX4_shownThings 4 = .ok (.iload_n 2, 1) := by decide +kernel
theorem dX4_shownThings_5 : decode cX4_shownThings 5 = .ok (.aload_n 0, 1) := by decide +kernel
theorem dX4_shownThings_6 : decode cX4_shownThings 6 = .ok (.getfield 34, 3) := by decide +kernel
theorem dX4_shownThings_9 : decode cX4_shownThings 9 = .ok (.if_icmp .ge 20, 3) := by decide +kernel
theorem dX4_shownThings_12 : decode cX4_shownThings 12 = .ok (.iload_n 1, 1) := by decide +kernel
theorem dX4_shownThings_13 : decode cX4_shownThings 13 = .ok (.aload_n 0, 1) := by decide +kernel
theorem dX4_shownThings_14 : decode cX4_shownThings 14 = .ok (.iload_n 2, 1) := by decide +kernel
theorem dX4_shownThings_15 : decode cX4_shownThings 15 = .ok (.iconst 3, 1) := by decide +kernel
theorem dX4_shownThings_16 : decode cX4_shownThings 16 = .ok (.invokevirtual 57, 3) := by decide +kernel
theorem dX4_shownThings_19 : decode cX4_shownThings 19 = .ok (.iload_n 2, 1) := by decide +kernel
theorem dX4_shownThings_20 : decode cX4_shownThings 20 = .ok (.ishl, 1) := by decide +kernel
theorem dX4_shownThings_21 : decode cX4_shownThings 21 = .ok (.ior, 1) := by decide +kernel
theorem dX4_shownThings_22 : decode cX4_shownThings 22 = .ok (.istore_n 1, 1) := by decide +kernel
theorem dX4_shownThings_23 : decode cX4_shownThings 23 = .ok (.iinc 2 1, 3) := by decide +kernel
theorem dX4_shownThings_26 : decode cX4_shownThings 26 = .ok (.goto (-22), 3) := by decide +kernel
theorem dX4_shownThings_29 : decode cX4_shownThings 29 = .ok (.iload_n 1, 1) := by decide +kernel
theorem dX4_shownThings_30 : decode cX4_shownThings 30 = .ok (.ireturn, 1) := by decide +kernel
theorem dX4_sumOfThings_0 : decode cX4_sumOfThings 0 = .ok (.iconst 0, 1) := by decide +kernel
theorem dX4_sumOfThings_1 : decode cX4_sumOfThings 1 = .ok (.istore_n 2, 1) := by decide +kernel
theorem dX4_sumOfThings_2 : decode cX4_sumOfThings 2 = .ok (.iconst 0, 1) := by decide +kernel
theorem dX4_sumOfThings_3 : decode cX4_sumOfThings 3 = .ok (.istore_n 3, 1) := by decide +kernel
theorem dX4_sumOfThings_4 : decode cX4_sumOfThings 4 = .ok (.iload_n 3, 1) := by decide +kernel
theorem dX4_sumOfThings_5 : decode cX4_sumOfThings 5 = .ok (.aload_n 0, 1) := by decide +kernel
theorem dX4_sumOfThings_6 : decode cX4_sumOfThings 6 = .ok (.getfield 34, 3) := by decide +kernel
theorem dX4_sumOfThings_9 : decode cX4_sumOfThings 9 = .ok (.if_icmp .ge 18, 3) := by decide +kernel
theorem dX4_sumOfThings_12 : decode cX4_sumOfThings 12 = .ok (.iload_n 2, 1) := by decide +kernel
theorem dX4_sumOfThings_13 : decode cX4_sumOfThings 13 = .ok (.aload_n 0, 1) := by decide +kernel
theorem dX4_sumOfThings_14 : decode cX4_sumOfThings 14 = .ok (.iload_n 3, 1) := by decide +kernel
theorem dX4_sumOfThings_15 : decode cX4_sumOfThings 15 = .ok (.iload_n 1, 1) := by decide +kernel
theorem dX4_sumOfThings_16 : decode cX4_sumOfThings 16 = .ok (.invokevirtual 57, 3) := by decide +kernel
theorem dX4_sumOfThings_19 : decode cX4_sumOfThings 19 = .ok (.iadd, 1) := by decide +kernel
theorem dX4_sumOfThings_20 : decode cX4_sumOfThings 20 = .ok (.istore_n 2, 1) := by decide +kernel
theorem dX4_sumOfThings_21 : decode cX4_sumOfThings 21 = .ok (.iinc 3 1, 3) := by decide +kernel
theorem dX4_sumOfThings_24 : decode cX4_sumOfThings 24 = .ok (.goto (-20), 3) := by decide +kernel
theorem dX4_sumOfThings_27 : decode cX4_sumOfThings 27 = .ok (.iload_n 2, 1) := by decide +kernel
theorem dX4_sumOfThings_28 : decode cX4_sumOfThings 28 = .ok (.ireturn, 1) := by decide +kernel
theorem dX5_init_0 : decode cX5_init 0 = .ok (.aload_n 0, 1) := by decide +kernel
theorem dX5_init_1 : decode cX5_init 1 = .ok (.invokespecial 3, 3) := by decide +kernel
theorem dX5_init_4 : decode cX5_init 4 = .ok (.aload_n 0, 1) := by decide +kernel
theorem dX5_init_5 : decode cX5_init 5 = .ok (.bipush 9, 2) := by decide +kernel
theorem dX5_init_7 : decode cX5_init 7 = .ok (.newarray .int, 2) := by decide +kernel
theorem dX5_init_9 : decode cX5_init 9 = .ok (.putfield 9, 3) := by decide +kernel
theorem dX5_init_12 : decode cX5_init 12 = .ok (.aload_n 0, 1) := by decide +kernel
theorem dX5_init_13 : decode cX5_init 13 = .ok (.bipush 9, 2) := by decide +kernel
theorem dX5_init_15 : decode cX5_init 15 = .ok (.newarray .int, 2) := by decide +kernel
theorem dX5_init_17 : decode cX5_init 17 = .ok (.putfield 15, 3) := by decide +kernel
theorem dX5_init_20 : decode cX5_init 20 = .ok (.return_, 1) := by decide +kernel
theorem dX5_take_0 : decode cX5_take 0 = .ok (.aload_n 0, 1) := by decide +kernel
theorem dX5_take_1 : decode cX5_take 1 = .ok (.aload_n 1, 1) := by decide +kernel
theorem dX5_take_2 : decode cX5_take 2 = .ok (.getfield 18, 3) := by decide +kernel
theorem dX5_take_5 : decode cX5_take 5 = .ok (.putfield 24, 3) := by decide +kernel
theorem dX5_take_8 : decode cX5_take 8 = .ok (.aload_n 0, 1) := by decide +kernel
theorem dX5_take_9 : decode cX5_take 9 = .ok (.aload_n 1, 1) := by decide +kernel
theorem dX5_take_10 : decode cX5_take 10 = .ok (.getfield 25, 3) := by decide +kernel
theorem dX5_take_13 : decode cX5_take 13 = .ok (.putfield 28, 3) := by decide +kernel
theorem dX5_take_16 : decode cX5_take 16 = .ok (.aload_n 0, 1) := by decide +kernel
theorem dX5_take_17 : decode cX5_take 17 = .ok (.iconst 1, 1) := by decide +kernel
theorem dX5_take_18 : decode cX5_take 18 = .ok (.aload_n 0, 1) := by decide +kernel
theorem dX5_take_19 : decode cX5_take 19 = .ok (.getfield 28, 3) := by decide +kernel
theorem dX5_take_22 : decode cX5_take 22 = .ok (.ishl, 1) := by decide +kernel
theorem dX5_take_23 : decode cX5_take 23 = .ok (.putfield 29, 3) := by decide +kernel
theorem dX5_take_26 : decode cX5_take 26 = .ok (.iconst 0, 1) := by decide +kernel
theorem dX5_take_27 : decode cX5_take 27 = .ok (.istore_n 3, 1) := by decide +kernel
theorem dX5_take_28 : decode cX5_take 28 = .ok (.iload_n 3, 1) := by decide +kernel
theorem dX5_take_29 : decode cX5_take 29 = .ok (.aload_n 0, 1) := by decide +kernel
theorem dX5_take_30 : decode cX5_take 30 = .ok (.getfield 24, 3) := by decide +kernel
theorem dX5_take_33 : decode cX5_take 33 = .ok (.if_icmp .ge 39, 3) := by decide +kernel
theorem dX5_take_36 : decode cX5_take 36 = .ok (.aload_n 0, 1) := by decide +kernel
theorem dX5_take_37 : decode cX5_take 37 = .ok (.getfield 9, 3) := by decide +kernel
theorem dX5_take_40 : decode cX5_take 40 = .ok (.iload_n 3, 1) := by decide +kernel
theorem dX5_take_41 : decode cX5_take 41 = .ok (.aload_n 2, 1) := by decide +kernel
theorem dX5_take_42 : decode cX5_take 42 = .ok (.getfield 32, 3) := by decide +kernel
theorem dX5_take_45 : decode cX5_take 45 = .ok (.iload_n 3, 1) := by decide +kernel
theorem dX5_take_46 : decode cX5_take 46 = .ok (.invokestatic 35, 3) := by decide +kernel
theorem dX5_take_49 : decode cX5_take 49 = .ok (.invokestatic 39, 3) := by decide +kernel
theorem dX5_take_52 : decode cX5_take 52 = .ok (.aload_n 0, 1) := by decide +kernel
theorem dX5_take_53 : decode cX5_take 53 = .ok (.getfield 15, 3) := by decide +kernel
theorem dX5_take_56 : decode cX5_take 56 = .ok (.iload_n 3, 1) := by decide +kernel
theorem dX5_take_57 : decode cX5_take 57 = .ok (.aload_n 1, 1) := by decide +kernel
theorem dX5_take_58 : decode cX5_take 58 = .ok (.iload_n 3, 1) := by decide +kernel
theorem dX5_take_59 : decode cX5_take 59 = .ok (.iconst 2, 1) := by decide +kernel
theorem dX5_take_60 : decode cX5_take 60 = .ok (.invokevirtual 43, 3) := by decide +kernel
theorem dX5_take_63 : decode cX5_take 63 = .ok (.invokestatic 39, 3) := by decide +kernel
theorem dX5_take_66 : decode cX5_take 66 = .ok (.iinc 3 1, 3) := by decide +kernel
theorem dX5_take_69 : decode cX5_take 69 = .ok (.goto (-41), 3) := by decide +kernel
theorem dX5_take_72 : decode cX5_take 72 = .ok (.return_, 1) := by decide +kernel
theorem dX5_tooMany_0 : decode cX5_tooMany 0 = .ok (.iconst 0, 1) := by decide +kernel
theorem dX5_tooMany_1 : decode cX5_tooMany 1 = .ok (.istore_n 2, 1) := by decide +kernel
theorem dX5_tooMany_2 : decode cX5_tooMany 2 = .ok (.iconst 0, 1) := by decide +kernel
theorem dX5_tooMany_3 : decode cX5_tooMany 3 = .ok (.istore_n 3, 1) := by decide +kernel
theorem dX5_tooMany_4 : decode cX5_tooMany 4 = .ok (.iload_n 3, 1) := by decide +kernel
theorem dX5_tooMany_5 : decode cX5_tooMany 5 = .ok (.aload_n 0, 1) := by decide +kernel
theorem dX5_tooMany_6 : decode cX5_tooMany 6 = .ok (.getfield 24, 3) := by decide +kernel
theorem dX5_tooMany_9 : decode cX5_tooMany 9 = .ok (.if_icmp .ge 33, 3) := by decide +kernel
theorem dX5_tooMany_12 : decode cX5_tooMany 12 = .ok (.aload_n 0, 1) := by decide +kernel
theorem dX5_tooMany_13 : decode cX5_tooMany 13 = .ok (.getfield 9, 3) := by decide +kernel
theorem dX5_tooMany_16 : decode cX5_tooMany 16 = .ok (.iload_n 3, 1) := by decide +kernel
theorem dX5_tooMany_17 : decode cX5_tooMany 17 = .ok (.invokestatic 35, 3) := by decide +kernel
theorem dX5_tooMany_20 : decode cX5_tooMany 20 = .ok (.iload_n 1, 1) := by decide +kernel
theorem dX5_tooMany_21 : decode cX5_tooMany 21 = .ok (.iand, 1) := by decide +kernel
theorem dX5_tooMany_22 : decode cX5_tooMany 22 = .ok (.ifCond .eq 14, 3) := by decide +kernel
theorem dX5_tooMany_25 : decode cX5_tooMany 25 = .ok (.iload_n 2, 1) := by decide +kernel
theorem dX5_tooMany_26 : decode cX5_tooMany 26 = .ok (.aload_n 0, 1) := by decide +kernel
theorem dX5_tooMany_27 : decode cX5_tooMany 27 = .ok (.getfield 15, 3) := by decide +kernel
theorem dX5_tooMany_30 : decode cX5_tooMany 30 = .ok (.iload_n 3, 1) := by decide +kernel
theorem dX5_tooMany_31 : decode cX5_tooMany 31 = .ok (.invokestatic 35, 3) := by decide +kernel
theorem dX5_tooMany_34 : decode cX5_tooMany 34 = .ok (.iadd, 1) := by decide +kernel
theorem dX5_tooMany_35 : decode cX5_tooMany 35 = .ok (.istore_n 2, 1) := by decide +kernel
theorem dX5_tooMany_36 : decode cX5_tooMany 36 = .ok (.iinc 3 1, 3) := by decide +kernel
theorem dX5_tooMany_39 : decode cX5_tooMany 39 = .ok (.goto (-35), 3) := by decide +kernel
theorem dX5_tooMany_42 : decode cX5_tooMany 42 = .ok (.iload_n 1, 1) := by decide +kernel
theorem dX5_tooMany_43 : decode cX5_tooMany 43 = .ok (.invokestatic 47, 3) := by decide +kernel
theorem dX5_tooMany_46 : decode cX5_tooMany 46 = .ok (.iload_n 2, 1) := by decide +kernel
theorem dX5_tooMany_47 : decode cX5_tooMany 47 = .ok (.if_icmp .le 7, 3) := by decide +kernel
theorem dX5_tooMany_50 : decode cX5_tooMany 50 = .ok (.iconst 1, 1) := by decide +kernel
theorem dX5_tooMany_51 : decode cX5_tooMany 51 = .ok (.goto 4, 3) := by decide +kernel
theorem dX5_tooMany_54 : decode cX5_tooMany 54 = .ok (.iconst 0, 1) := by decide +kernel
theorem dX5_tooMany_55 : decode cX5_tooMany 55 = .ok (.ireturn, 1) := by decide +kernel
theorem dX5_anyTooMany_0 : decode cX5_anyTooMany 0 = .ok (.iconst 1, 1) := by decide +kernel
theorem dX5_anyTooMany_1 : decode cX5_anyTooMany 1 = .ok (.iload_n 2, 1) := by decide +kernel
theorem dX5_anyTooMany_2 : decode cX5_anyTooMany 2 = .ok (.ishl, 1) := by decide +kernel
theorem dX5_anyTooMany_3 : decode cX5_anyTooMany 3 = .ok (.istore_n 3, 1) := by decide +kernel
theorem dX5_anyTooMany_4 : decode cX5_anyTooMany 4 = .ok (.iload_n 3, 1) := by decide +kernel
theorem dX5_anyTooMany_5 : decode cX5_anyTooMany 5 = .ok (.iload_n 1, 1) := by decide +kernel
theorem dX5_anyTooMany_6 : decode cX5_anyTooMany 6 = .ok (.if_icmp .gt 27, 3) := by decide +kernel
theorem dX5_anyTooMany_9 : decode cX5_anyTooMany 9 = .ok (.iload_n 3, 1) := by decide +kernel
theorem dX5_anyTooMany_10 : decode cX5_anyTooMany 10 = .ok (.iload_n 1, 1) := by decide +kernel
theorem dX5_anyTooMany_11 : decode cX5_anyTooMany 11 = .ok (.iconst (-1), 1) := by decide +kernel
theorem dX5_anyTooMany_12 : decode cX5_anyTooMany 12 = .ok (.ixor, 1) := by decide +kernel
theorem dX5_anyTooMany_13 : decode cX5_anyTooMany 13 = .ok (.iand, 1) := by decide +kernel
theorem dX5_anyTooMany_14 : decode cX5_anyTooMany 14 = .ok (.ifCond .ne 13, 3) := by decide +kernel
theorem dX5_anyTooMany_17 : decode cX5_anyTooMany 17 = .ok (.aload_n 0, 1) := by decide +kernel
theorem dX5_anyTooMany_18 : decode cX5_anyTooMany 18 = .ok (.iload_n 3, 1) := by decide +kernel
theorem dX5_anyTooMany_19 : decode cX5_anyTooMany 19 = .ok (.invokevirtual 53, 3) := by decide +kernel
theorem dX5_anyTooMany_22 : decode cX5_anyTooMany 22 = .ok (.ifCond .eq 5, 3) := by decide +kernel
theorem dX5_anyTooMany_25 : decode cX5_anyTooMany 25 = .ok (.iconst 1, 1) := by decide +kernel
theorem dX5_anyTooMany_26 : decode cX5_anyTooMany 26 = .ok (.ireturn, 1) := by decide +kernel
theorem dX5_anyTooMany_27 : decode cX5_anyTooMany 27 = .ok (.iinc 3 1, 3) := by decide +kernel
theorem dX5_anyTooMany_30 : decode cX5_anyTooMany 30 = .ok (.goto (-26), 3) := by decide +kernel
theorem dX5_anyTooMany_33 : decode cX5_anyTooMany 33 = .ok (.iconst 0, 1) := by decide +kernel
theorem dX5_anyTooMany_34 : decode cX5_anyTooMany 34 = .ok (.ireturn, 1) := by decide +kernel
theorem dX5_mostAtOnce_0 : decode cX5_mostAtOnce 0 = .ok (.iconst 0, 1) := by decide +kernel
theorem dX5_mostAtOnce_1 : decode cX5_mostAtOnce 1 = .ok (.istore_n 1, 1) := by decide +kernel
theorem dX5_mostAtOnce_2 : decode cX5_mostAtOnce 2 = .ok (.iconst 0, 1) := by decide +kernel
theorem dX5_mostAtOnce_3 : decode cX5_mostAtOnce 3 = .ok (.istore_n 2, 1) := by decide +kernel
theorem dX5_mostAtOnce_4 : decode cX5_mostAtOnce 4 = .ok (.iload_n 2, 1) := by decide +kernel
theorem dX5_mostAtOnce_5 : decode cX5_mostAtOnce 5 = .ok (.aload_n 0, 1) := by decide +kernel
theorem dX5_mostAtOnce_6 : decode cX5_mostAtOnce 6 = .ok (.getfield 28, 3) := by decide +kernel
theorem dX5_mostAtOnce_9 : decode cX5_mostAtOnce 9 = .ok (.if_icmp .ge 26, 3) := by decide +kernel
theorem dX5_mostAtOnce_12 : decode cX5_mostAtOnce 12 = .ok (.iload_n 1, 1) := by decide +kernel
theorem dX5_mostAtOnce_13 : decode cX5_mostAtOnce 13 = .ok (.iconst 1, 1) := by decide +kernel
theorem dX5_mostAtOnce_14 : decode cX5_mostAtOnce 14 = .ok (.iload_n 2, 1) := by decide +kernel
theorem dX5_mostAtOnce_15 : decode cX5_mostAtOnce 15 = .ok (.ishl, 1) := by decide +kernel
theorem dX5_mostAtOnce_16 : decode cX5_mostAtOnce 16 = .ok (.ior, 1) := by decide +kernel
theorem dX5_mostAtOnce_17 : decode cX5_mostAtOnce 17 = .ok (.istore_n 3, 1) := by decide +kernel
theorem dX5_mostAtOnce_18 : decode cX5_mostAtOnce 18 = .ok (.aload_n 0, 1) := by decide +kernel
theorem dX5_mostAtOnce_19 : decode cX5_mostAtOnce 19 = .ok (.iload_n 3, 1) := by decide +kernel
theorem dX5_mostAtOnce_20 : decode cX5_mostAtOnce 20 = .ok (.iload_n 2, 1) := by decide +kernel
theorem dX5_mostAtOnce_21 : decode cX5_mostAtOnce 21 = .ok (.invokevirtual 57, 3) := by decide +kernel
theorem dX5_mostAtOnce_24 : decode cX5_mostAtOnce 24 = .ok (.ifCond .ne 5, 3) := by decide +kernel
theorem dX5_mostAtOnce_27 : decode cX5_mostAtOnce 27 = .ok (.iload_n 3, 1) := by decide +kernel
theorem dX5_mostAtOnce_28 : decode cX5_mostAtOnce 28 = .ok (.istore_n 1, 1) := by decide +kernel
theorem dX5_mostAtOnce_29 : decode cX5_mostAtOnce 29 = .ok (.iinc 2 1, 3) := by decide +kernel
theorem dX5_mostAtOnce_32 : decode cX5_mostAtOnce 32 = .ok (.goto (-28), 3) := by decide +kernel
theorem dX5_mostAtOnce_35 : decode cX5_mostAtOnce 35 = .ok (.iload_n 1, 1) := by decide +kernel
theorem dX5_mostAtOnce_36 : decode cX5_mostAtOnce 36 = .ok (.ireturn, 1) := by decide +kernel
theorem dX5_fewestTooMany_0 : decode cX5_fewestTooMany 0 = .ok (.iconst 0, 1) := by decide +kernel
theorem dX5_fewestTooMany_1 : decode cX5_fewestTooMany 1 = .ok (.istore_n 1, 1) := by decide +kernel
theorem dX5_fewestTooMany_2 : decode cX5_fewestTooMany 2 = .ok (.iconst 1, 1) := by decide +kernel
theorem dX5_fewestTooMany_3 : decode cX5_fewestTooMany 3 = .ok (.istore_n 2, 1) := by decide +kernel
theorem dX5_fewestTooMany_4 : decode cX5_fewestTooMany 4 = .ok (.iload_n 2, 1) := by decide +kernel
theorem dX5_fewestTooMany_5 : decode cX5_fewestTooMany 5 = .ok (.aload_n 0, 1) := by decide +kernel
theorem dX5_fewestTooMany_6 : decode cX5_fewestTooMany 6 = .ok (.getfield 29, 3) := by decide +kernel
theorem dX5_fewestTooMany_9 : decode cX5_fewestTooMany 9 = .ok (.if_icmp .ge 44, 3) := by decide +kernel
theorem dX5_fewestTooMany_12 : decode cX5_fewestTooMany 12 = .ok (.iload_n 1, 1) := by decide +kernel
theorem dX5_fewestTooMany_13 : decode cX5_fewestTooMany 13 = .ok (.ifCond .eq 14, 3) := by decide +kernel
theorem dX5_fewestTooMany_16 : decode cX5_fewestTooMany 16 = .ok (.iload_n 2, 1) := by decide +kernel
theorem dX5_fewestTooMany_17 : decode cX5_fewestTooMany 17 = .ok (.invokestatic 47, 3) := by decide +kernel
theorem dX5_fewestTooMany_20 : decode cX5_fewestTooMany 20 = .ok (.iload_n 1, 1) := by decide +kernel
theorem dX5_fewestTooMany_21 : decode cX5_fewestTooMany 21 = .ok (.invokestatic 47, 3) := by decide +kernel
theorem dX5_fewestTooMany_24 : decode cX5_fewestTooMany 24 = .ok (.if_icmp .ge 7, 3) := by decide +kernel
theorem dX5_fewestTooMany_27 : decode cX5_fewestTooMany 27 = .ok (.iconst 1, 1) := by decide +kernel
theorem dX5_fewestTooMany_28 : decode cX5_fewestTooMany 28 = .ok (.goto 4, 3) := by decide +kernel
theorem dX5_fewestTooMany_31 : decode cX5_fewestTooMany 31 = .ok (.iconst 0, 1) := by decide +kernel
theorem dX5_fewestTooMany_32 : decode cX5_fewestTooMany 32 = .ok (.istore_n 3, 1) := by decide +kernel
theorem dX5_fewestTooMany_33 : decode cX5_fewestTooMany 33 = .ok (.iload_n 3, 1) := by decide +kernel
theorem dX5_fewestTooMany_34 : decode cX5_fewestTooMany 34 = .ok (.ifCond .eq 13, 3) := by decide +kernel
theorem dX5_fewestTooMany_37 : decode cX5_fewestTooMany 37 = .ok (.aload_n 0, 1) := by decide +kernel
theorem dX5_fewestTooMany_38 : decode cX5_fewestTooMany 38 = .ok (.iload_n 2, 1) := by decide +kernel
theorem dX5_fewestTooMany_39 : decode cX5_fewestTooMany 39 = .ok (.invokevirtual 53, 3) := by decide +kernel
theorem dX5_fewestTooMany_42 : decode cX5_fewestTooMany 42 = .ok (.ifCond .eq 5, 3) := by decide +kernel
theorem dX5_fewestTooMany_45 : decode cX5_fewestTooMany 45 = .ok (.iload_n 2, 1) := by decide +kernel
theorem dX5_fewestTooMany_46 : decode cX5_fewestTooMany 46 = .ok (.istore_n 1, 1) := by decide +kernel
theorem dX5_fewestTooMany_47 : decode cX5_fewestTooMany 47 = .ok (.iinc 2 1, 3) := by decide +kernel
theorem dX5_fewestTooMany_50 : decode cX5_fewestTooMany 50 = .ok (.goto (-46), 3) := by decide +kernel
theorem dX5_fewestTooMany_53 : decode cX5_fewestTooMany 53 = .ok (.iload_n 1, 1) := by decide +kernel
theorem dX5_fewestTooMany_54 : decode cX5_fewestTooMany 54 = .ok (.ireturn, 1) := by decide +kernel
theorem dX5_fewestForAll_0 : decode cX5_fewestForAll 0 = .ok (.aload_n 0, 1) := by decide +kernel
theorem dX5_fewestForAll_1 : decode cX5_fewestForAll 1 = .ok (.getfield 29, 3) := by decide +kernel
theorem dX5_fewestForAll_4 : decode cX5_fewestForAll 4 = .ok (.iconst 1, 1) := by decide +kernel
theorem dX5_fewestForAll_5 : decode cX5_fewestForAll 5 = .ok (.isub, 1) := by decide +kernel
theorem dX5_fewestForAll_6 : decode cX5_fewestForAll 6 = .ok (.istore_n 1, 1) := by decide +kernel
theorem dX5_fewestForAll_7 : decode cX5_fewestForAll 7 = .ok (.iconst 0, 1) := by decide +kernel
theorem dX5_fewestForAll_8 : decode cX5_fewestForAll 8 = .ok (.istore_n 2, 1) := by decide +kernel
theorem dX5_fewestForAll_9 : decode cX5_fewestForAll 9 = .ok (.iload_n 2, 1) := by decide +kernel
theorem dX5_fewestForAll_10 : decode cX5_fewestForAll 10 = .ok (.aload_n 0, 1) := by decide +kernel
theorem dX5_fewestForAll_11 : decode cX5_fewestForAll 11 = .ok (.getfield 29, 3) := by decide +kernel
theorem dX5_fewestForAll_14 : decode cX5_fewestForAll 14 = .ok (.if_icmp .ge 30, 3) := by decide +kernel
theorem dX5_fewestForAll_17 : decode cX5_fewestForAll 17 = .ok (.iload_n 2, 1) := by decide +kernel
theorem dX5_fewestForAll_18 : decode cX5_fewestForAll 18 = .ok (.invokestatic 47, 3) := by decide +kernel
theorem dX5_fewestForAll_21 : decode cX5_fewestForAll 21 = .ok (.iload_n 1, 1) := by decide +kernel
theorem dX5_fewestForAll_22 : decode cX5_fewestForAll 22 = .ok (.invokestatic 47, 3) := by decide +kernel
theorem dX5_fewestForAll_25 : decode cX5_fewestForAll 25 = .ok (.if_icmp .ge 13, 3) := by decide +kernel
theorem dX5_fewestForAll_28 : decode cX5_fewestForAll 28 = .ok (.aload_n 0, 1) := by decide +kernel
theorem dX5_fewestForAll_29 : decode cX5_fewestForAll 29 = .ok (.iload_n 2, 1) := by decide +kernel
theorem dX5_fewestForAll_30 : decode cX5_fewestForAll 30 = .ok (.invokevirtual 61, 3) := by decide +kernel
theorem dX5_fewestForAll_33 : decode cX5_fewestForAll 33 = .ok (.ifCond .eq 5, 3) := by decide +kernel
theorem dX5_fewestForAll_36 : decode cX5_fewestForAll 36 = .ok (.iload_n 2, 1) := by decide +kernel
theorem dX5_fewestForAll_37 : decode cX5_fewestForAll 37 = .ok (.istore_n 1, 1) := by decide +kernel
theorem dX5_fewestForAll_38 : decode cX5_fewestForAll 38 = .ok (.iinc 2 1, 3) := by decide +kernel
theorem dX5_fewestForAll_41 : decode cX5_fewestForAll 41 = .ok (.goto (-32), 3) := by decide +kernel
theorem dX5_fewestForAll_44 : decode cX5_fewestForAll 44 = .ok (.iload_n 1, 1) := by decide +kernel
theorem dX5_fewestForAll_45 : decode cX5_fewestForAll 45 = .ok (.ireturn, 1) := by decide +kernel
theorem dX5_ringAllFor_0 : decode cX5_ringAllFor 0 = .ok (.iconst 0, 1) := by decide +kernel
theorem dX5_ringAllFor_1 : decode cX5_ringAllFor 1 = .ok (.istore_n 2, 1) := by decide +kernel
theorem dX5_ringAllFor_2 : decode cX5_ringAllFor 2 = .ok (.iload_n 2, 1) := by decide +kernel
theorem dX5_ringAllFor_3 : decode cX5_ringAllFor 3 = .ok (.aload_n 0, 1) := by decide +kernel
theorem dX5_ringAllFor_4 : decode cX5_ringAllFor 4 = .ok (.getfield 24, 3) := by decide +kernel
theorem dX5_ringAllFor_7 : decode cX5_ringAllFor 7 = .ok (.if_icmp .ge 30, 3) := by decide +kernel
theorem dX5_ringAllFor_10 : decode cX5_ringAllFor 10 = .ok (.aload_n 0, 1) := by decide +kernel
theorem dX5_ringAllFor_11 : decode cX5_ringAllFor 11 = .ok (.getfield 9, 3) := by decide +kernel
theorem dX5_ringAllFor_14 : decode cX5_ringAllFor 14 = .ok (.iload_n 2, 1) := by decide +kernel
theorem dX5_ringAllFor_15 : decode cX5_ringAllFor 15 = .ok (.invokestatic 35, 3) := by decide +kernel
theorem dX5_ringAllFor_18 : decode cX5_ringAllFor 18 = .ok (.istore_n 3, 1) := by decide +kernel
theorem dX5_ringAllFor_19 : decode cX5_ringAllFor 19 = .ok (.iload_n 3, 1) := by decide +kernel
theorem dX5_ringAllFor_20 : decode cX5_ringAllFor 20 = .ok (.ifCond .eq 11, 3) := by decide +kernel
theorem dX5_ringAllFor_23 : decode cX5_ringAllFor 23 = .ok (.iload_n 3, 1) := by decide +kernel
theorem dX5_ringAllFor_24 : decode cX5_ringAllFor 24 = .ok (.iload_n 1, 1) := by decide +kernel
theorem dX5_ringAllFor_25 : decode cX5_ringAllFor 25 = .ok (.iand, 1) := by decide +kernel
theorem dX5_ringAllFor_26 : decode cX5_ringAllFor 26 = .ok (.ifCond .ne 5, 3) := by decide +kernel
theorem dX5_ringAllFor_29 : decode cX5_ringAllFor 29 = .ok (.iconst 0, 1) := by decide +kernel
theorem dX5_ringAllFor_30 : decode cX5_ringAllFor 30 = .ok (.ireturn, 1) := by decide +kernel
theorem dX5_ringAllFor_31 : decode cX5_ringAllFor 31 = .ok (.iinc 2 1, 3) := by decide +kernel
theorem dX5_ringAllFor_34 : decode cX5_ringAllFor 34 = .ok (.goto (-32), 3) := by decide +kernel
theorem dX5_ringAllFor_37 : decode cX5_ringAllFor 37 = .ok (.iconst 1, 1) := by decide +kernel
theorem dX5_ringAllFor_38 : decode cX5_ringAllFor 38 = .ok (.ireturn, 1) := by decide +kernel
theorem dX6_init_0 : decode cX6_init 0 = .ok (.aload_n 0, 1) := by decide +kernel
theorem dX6_init_1 : decode cX6_init 1 = .ok (.invokespecial 3, 3) := by decide +kernel
theorem dX6_init_4 : decode cX6_init 4 = .ok (.aload_n 0, 1) := by decide +kernel
theorem dX6_init_5 : decode cX6_init 5 = .ok (.bipush 90, 2) := by decide +kernel
theorem dX6_init_7 : decode cX6_init 7 = .ok (.newarray .int, 2) := by decide +kernel
theorem dX6_init_9 : decode cX6_init 9 = .ok (.putfield 9, 3) := by decide +kernel
theorem dX6_init_12 : decode cX6_init 12 = .ok (.aload_n 0, 1) := by decide +kernel
theorem dX6_init_13 : decode cX6_init 13 = .ok (.bipush 9, 2) := by decide +kernel
theorem dX6_init_15 : decode cX6_init 15 = .ok (.newarray .int, 2) := by decide +kernel
theorem dX6_init_17 : decode cX6_init 17 = .ok (.putfield 15, 3) := by decide +kernel
theorem dX6_init_20 : decode cX6_init 20 = .ok (.aload_n 0, 1) := by decide +kernel
theorem dX6_init_21 : decode cX6_init 21 = .ok (.bipush 10, 2) := by decide +kernel
theorem dX6_init_23 : decode cX6_init 23 = .ok (.newarray .int, 2) := by decide +kernel
theorem dX6_init_25 : decode cX6_init 25 = .ok (.putfield 18, 3) := by decide +kernel
theorem dX6_init_28 : decode cX6_init 28 = .ok (.aload_n 0, 1) := by decide +kernel
theorem dX6_init_29 : decode cX6_init 29 = .ok (.bipush 9, 2) := by decide +kernel
theorem dX6_init_31 : decode cX6_init 31 = .ok (.newarray .int, 2) := by decide +kernel
theorem dX6_init_33 : decode cX6_init 33 = .ok (.putfield 21, 3) := by decide +kernel
theorem dX6_init_36 : decode cX6_init 36 = .ok (.return_, 1) := by decide +kernel
theorem dX6_weigh_0 : decode cX6_weigh 0 = .ok (.iconst 0, 1) := by decide +kernel
theorem dX6_weigh_1 : decode cX6_weigh 1 = .ok (.istore_n 3, 1) := by decide +kernel
theorem dX6_weigh_2 : decode cX6_weigh 2 = .ok (.iload_n 3, 1) := by decide +kernel
theorem dX6_weigh_3 : decode cX6_weigh 3 = .ok (.aload_n 1, 1) := by decide +kernel
theorem dX6_weigh_4 : decode cX6_weigh 4 = .ok (.getfield 24, 3) := by decide +kernel
theorem dX6_weigh_7 : decode cX6_weigh 7 = .ok (.if_icmp .ge 49, 3) := by decide +kernel
theorem dX6_weigh_10 : decode cX6_weigh 10 = .ok (.iconst 0, 1) := by decide +kernel
theorem dX6_weigh_11 : decode cX6_weigh 11 = .ok (.istore 4, 2) := by decide +kernel
theorem dX6_weigh_13 : decode cX6_weigh 13 = .ok (.iload 4, 2) := by decide +kernel
theorem dX6_weigh_15 : decode cX6_weigh 15 = .ok (.aload_n 1, 1) := by decide +kernel
theorem dX6_weigh_16 : decode cX6_weigh 16 = .ok (.getfield 30, 3) := by decide +kernel
theorem dX6_weigh_19 : decode cX6_weigh 19 = .ok (.if_icmp .ge 31, 3) := by decide +kernel
theorem dX6_weigh_22 : decode cX6_weigh 22 = .ok (.aload_n 0, 1) := by decide +kernel
theorem dX6_weigh_23 : decode cX6_weigh 23 = .ok (.getfield 9, 3) := by decide +kernel
theorem dX6_weigh_26 : decode cX6_weigh 26 = .ok (.iload_n 3, 1) := by decide +kernel
theorem dX6_weigh_27 : decode cX6_weigh 27 = .ok (.bipush 10, 2) := by decide +kernel
theorem dX6_weigh_29 : decode cX6_weigh 29 = .ok (.imul, 1) := by decide +kernel
theorem dX6_weigh_30 : decode cX6_weigh 30 = .ok (.iload 4, 2) := by decide +kernel
theorem dX6_weigh_32 : decode cX6_weigh 32 = .ok (.iadd, 1) := by decide +kernel
theorem dX6_weigh_33 : decode cX6_weigh 33 = .ok (.aload_n 2, 1) := by decide +kernel
theorem dX6_weigh_34 : decode cX6_weigh 34 = .ok (.aload_n 1, 1) := by decide +kernel
theorem dX6_weigh_35 : decode cX6_weigh 35 = .ok (.iload_n 3, 1) := by decide +kernel
theorem dX6_weigh_36 : decode cX6_weigh 36 = .ok (.iload 4, 2) := by decide +kernel
theorem dX6_weigh_38 : decode cX6_weigh 38 = .ok (.invokevirtual 33, 3) := by decide +kernel
theorem dX6_weigh_41 : decode cX6_weigh 41 = .ok (.invokestatic 39, 3) := by decide +kernel
theorem dX6_weigh_44 : decode cX6_weigh 44 = .ok (.iinc 4 1, 3) := by decide +kernel
theorem dX6_weigh_47 : decode cX6_weigh 47 = .ok (.goto (-34), 3) := by decide +kernel
theorem dX6_weigh_50 : decode cX6_weigh 50 = .ok (.iinc 3 1, 3) := by decide +kernel
theorem dX6_weigh_53 : decode cX6_weigh 53 = .ok (.goto (-51), 3) := by decide +kernel
theorem dX6_weigh_56 : decode cX6_weigh 56 = .ok (.aload_n 0, 1) := by decide +kernel
theorem dX6_weigh_57 : decode cX6_weigh 57 = .ok (.aload_n 1, 1) := by decide +kernel
theorem dX6_weigh_58 : decode cX6_weigh 58 = .ok (.invokevirtual 43, 3) := by decide +kernel
theorem dX6_weigh_61 : decode cX6_weigh 61 = .ok (.return_, 1) := by decide +kernel
theorem dX6_listen_0 : decode cX6_listen 0 = .ok (.iconst 0, 1) := by decide +kernel
theorem dX6_listen_1 : decode cX6_listen 1 = .ok (.istore_n 2, 1) := by decide +kernel
theorem dX6_listen_2 : decode cX6_listen 2 = .ok (.iload_n 2, 1) := by decide +kernel
theorem dX6_listen_3 : decode cX6_listen 3 = .ok (.aload_n 1, 1) := by decide +kernel
theorem dX6_listen_4 : decode cX6_listen 4 = .ok (.getfield 24, 3) := by decide +kernel
theorem dX6_listen_7 : decode cX6_listen 7 = .ok (.if_icmp .ge 60, 3) := by decide +kernel
theorem dX6_listen_10 : decode cX6_listen 10 = .ok (.iconst 0, 1) := by decide +kernel
theorem dX6_listen_11 : decode cX6_listen 11 = .ok (.istore_n 3, 1) := by decide +kernel
theorem dX6_listen_12 : decode cX6_listen 12 = .ok (.iconst 0, 1) := by decide +kernel
theorem dX6_listen_13 : decode cX6_listen 13 = .ok (.istore 4, 2) := by decide +kernel
theorem dX6_listen_15 : decode cX6_listen 15 = .ok (.iload 4, 2) := by decide +kernel
theorem dX6_listen_17 : decode cX6_listen 17 = .ok (.aload_n 1, 1) := by decide +kernel
theorem dX6_listen_18 : decode cX6_listen 18 = .ok (.getfield 30, 3) := by decide +kernel
theorem dX6_listen_21 : decode cX6_listen 21 = .ok (.if_icmp .ge 31, 3) := by decide +kernel
theorem dX6_listen_24 : decode cX6_listen 24 = .ok (.aload_n 1, 1) := by decide +kernel
theorem dX6_listen_25 : decode cX6_listen 25 = .ok (.iload_n 2, 1) := by decide +kernel
theorem dX6_listen_26 : decode cX6_listen 26 = .ok (.aload_n 0, 1) := by decide +kernel
theorem dX6_listen_27 : decode cX6_listen 27 = .ok (.iload_n 2, 1) := by decide +kernel
theorem dX6_listen_28 : decode cX6_listen 28 = .ok (.iload 4, 2) := by decide +kernel
theorem dX6_listen_30 : decode cX6_listen 30 = .ok (.invokevirtual 47, 3) := by decide +kernel
theorem dX6_listen_33 : decode cX6_listen 33 = .ok (.invokevirtual 51, 3) := by decide +kernel
theorem dX6_listen_36 : decode cX6_listen 36 = .ok (.ifCond .eq 10, 3) := by decide +kernel
theorem dX6_listen_39 : decode cX6_listen 39 = .ok (.iload_n 3, 1) := by decide +kernel
theorem dX6_listen_40 : decode cX6_listen 40 = .ok (.iconst 1, 1) := by decide +kernel
theorem dX6_listen_41 : decode cX6_listen 41 = .ok (.iload 4, 2) := by decide +kernel
theorem dX6_listen_43 : decode cX6_listen 43 = .ok (.ishl, 1) := by decide +kernel
theorem dX6_listen_44 : decode cX6_listen 44 = .ok (.ior, 1) := by decide +kernel
theorem dX6_listen_45 : decode cX6_listen 45 = .ok (.istore_n 3, 1) := by decide +kernel
theorem dX6_listen_46 : decode cX6_listen 46 = .ok (.iinc 4 1, 3) := by decide +kernel
theorem dX6_listen_49 : decode cX6_listen 49 = .ok (.goto (-34), 3) := by decide +kernel
theorem dX6_listen_52 : decode cX6_listen 52 = .ok (.aload_n 0, 1) := by decide +kernel
theorem dX6_listen_53 : decode cX6_listen 53 = .ok (.getfield 15, 3) := by decide +kernel
theorem dX6_listen_56 : decode cX6_listen 56 = .ok (.iload_n 2, 1) := by decide +kernel
theorem dX6_listen_57 : decode cX6_listen 57 = .ok (.iload_n 3, 1) := by decide +kernel
theorem dX6_listen_58 : decode cX6_listen 58 = .ok (.invokestatic 39, 3) := by decide +kernel
theorem dX6_listen_61 : decode cX6_listen 61 = .ok (.iinc 2 1, 3) := by decide +kernel
theorem dX6_listen_64 : decode cX6_listen 64 = .ok (.goto (-62), 3) := by decide +kernel
theorem dX6_listen_67 : decode cX6_listen 67 = .ok (.return_, 1) := by decide +kernel
theorem dX6_likes_0 : decode cX6_likes 0 = .ok (.aload_n 0, 1) := by decide +kernel
theorem dX6_likes_1 : decode cX6_likes 1 = .ok (.getfield 9, 3) := by decide +kernel
theorem dX6_likes_4 : decode cX6_likes 4 = .ok (.iload_n 1, 1) := by decide +kernel
theorem dX6_likes_5 : decode cX6_likes 5 = .ok (.bipush 10, 2) := by decide +kernel
theorem dX6_likes_7 : decode cX6_likes 7 = .ok (.imul, 1) := by decide +kernel
theorem dX6_likes_8 : decode cX6_likes 8 = .ok (.iload_n 2, 1) := by decide +kernel
theorem dX6_likes_9 : decode cX6_likes 9 = .ok (.iadd, 1) := by decide +kernel
theorem dX6_likes_10 : decode cX6_likes 10 = .ok (.invokestatic 55, 3) := by decide +kernel
theorem dX6_likes_13 : decode cX6_likes 13 = .ok (.ireturn, 1) := by decide +kernel
theorem dX6_calls_0 : decode cX6_calls 0 = .ok (.aload_n 0, 1) := by decide +kernel
theorem dX6_calls_1 : decode cX6_calls 1 = .ok (.getfield 15, 3) := by decide +kernel
theorem dX6_calls_4 : decode cX6_calls 4 = .ok (.iload_n 1, 1) := by decide +kernel
theorem dX6_calls_5 : decode cX6_calls 5 = .ok (.invokestatic 55, 3) := by decide +kernel
theorem dX6_calls_8 : decode cX6_calls 8 = .ok (.iload_n 2, 1) := by decide +kernel
theorem dX6_calls_9 : decode cX6_calls 9 = .ok (.ishr, 1) := by decide +kernel
theorem dX6_calls_10 : decode cX6_calls 10 = .ok (.iconst 1, 1) := by decide +kernel
theorem dX6_calls_11 : decode cX6_calls 11 = .ok (.iand, 1) := by decide +kernel
theorem dX6_calls_12 : decode cX6_calls 12 = .ok (.iconst 1, 1) := by decide +kernel
theorem dX6_calls_13 : decode cX6_calls 13 = .ok (.if_icmp .ne 7, 3) := by decide +kernel
theorem dX6_calls_16 : decode cX6_calls 16 = .ok (.iconst 1, 1) := by decide +kernel
theorem dX6_calls_17 : decode cX6_calls 17 = .ok (.goto 4, 3) := by decide +kernel
theorem dX6_calls_20 : decode cX6_calls 20 = .ok (.iconst 0, 1) := by decide +kernel
theorem dX6_calls_21 : decode cX6_calls 21 = .ok (.ireturn, 1) := by decide +kernel
theorem dX6_lead_0 : decode cX6_lead 0 = .ok (.aload_n 0, 1) := by decide +kernel
theorem dX6_lead_1 : decode cX6_lead 1 = .ok (.getfield 18, 3) := by decide +kernel
theorem dX6_lead_4 : decode cX6_lead 4 = .ok (.iconst (-1), 1) := by decide +kernel
theorem dX6_lead_5 : decode cX6_lead 5 = .ok (.invokestatic 59, 3) := by decide +kernel
theorem dX6_lead_8 : decode cX6_lead 8 = .ok (.iconst 0, 1) := by decide +kernel
theorem dX6_lead_9 : decode cX6_lead 9 = .ok (.istore_n 3, 1) := by decide +kernel
theorem dX6_lead_10 : decode cX6_lead 10 = .ok (.iload_n 3, 1) := by decide +kernel
theorem dX6_lead_11 : decode cX6_lead 11 = .ok (.aload_n 1, 1) := by decide +kernel
theorem dX6_lead_12 : decode cX6_lead 12 = .ok (.getfield 24, 3) := by decide +kernel
theorem dX6_lead_15 : decode cX6_lead 15 = .ok (.if_icmp .ge 23, 3) := by decide +kernel
theorem dX6_lead_18 : decode cX6_lead 18 = .ok (.aload_n 0, 1) := by decide +kernel
theorem dX6_lead_19 : decode cX6_lead 19 = .ok (.getfield 21, 3) := by decide +kernel
theorem dX6_lead_22 : decode cX6_lead 22 = .ok (.iload_n 3, 1) := by decide +kernel
theorem dX6_lead_23 : decode cX6_lead 23 = .ok (.aload_n 1, 1) := by decide +kernel
theorem dX6_lead_24 : decode cX6_lead 24 = .ok (.iload_n 3, 1) := by decide +kernel
theorem dX6_lead_25 : decode cX6_lead 25 = .ok (.iconst 2, 1) := by decide +kernel
theorem dX6_lead_26 : decode cX6_lead 26 = .ok (.invokevirtual 65, 3) := by decide +kernel
theorem dX6_lead_29 : decode cX6_lead 29 = .ok (.invokestatic 39, 3) := by decide +kernel
theorem dX6_lead_32 : decode cX6_lead 32 = .ok (.iinc 3 1, 3) := by decide +kernel
theorem dX6_lead_35 : decode cX6_lead 35 = .ok (.goto (-25), 3) := by decide +kernel
theorem dX6_lead_38 : decode cX6_lead 38 = .ok (.iconst 0, 1) := by decide +kernel
theorem dX6_lead_39 : decode cX6_lead 39 = .ok (.istore_n 3, 1) := by decide +kernel
theorem dX6_lead_40 : decode cX6_lead 40 = .ok (.iconst 0, 1) := by decide +kernel
theorem dX6_lead_41 : decode cX6_lead 41 = .ok (.istore 4, 2) := by decide +kernel
theorem dX6_lead_43 : decode cX6_lead 43 = .ok (.iload 4, 2) := by decide +kernel
theorem dX6_lead_45 : decode cX6_lead 45 = .ok (.aload_n 1, 1) := by decide +kernel
theorem dX6_lead_46 : decode cX6_lead 46 = .ok (.getfield 30, 3) := by decide +kernel
theorem dX6_lead_49 : decode cX6_lead 49 = .ok (.if_icmp .ge 87, 3) := by decide +kernel
theorem dX6_lead_52 : decode cX6_lead 52 = .ok (.iload_n 2, 1) := by decide +kernel
theorem dX6_lead_53 : decode cX6_lead 53 = .ok (.ifCond .eq 16, 3) := by decide +kernel
theorem dX6_lead_56 : decode cX6_lead 56 = .ok (.aload_n 1, 1) := by decide +kernel
theorem dX6_lead_57 : decode cX6_lead 57 = .ok (.iload 4, 2) := by decide +kernel
theorem dX6_lead_59 : decode cX6_lead 59 = .ok (.invokevirtual 68, 3) := by decide +kernel
theorem dX6_lead_62 : decode cX6_lead 62 = .ok (.ifCond .eq 7, 3) := by decide +kernel
theorem dX6_lead_65 : decode cX6_lead 65 = .ok (.iconst 1, 1) := by decide +kernel
theorem dX6_lead_66 : decode cX6_lead 66 = .ok (.goto 4, 3) := by decide +kernel
theorem dX6_lead_69 : decode cX6_lead 69 = .ok (.iconst 0, 1) := by decide +kernel
theorem dX6_lead_70 : decode cX6_lead 70 = .ok (.istore 5, 2) := by decide +kernel
theorem dX6_lead_72 : decode cX6_lead 72 = .ok (.iload 5, 2) := by decide +kernel
theorem dX6_lead_74 : decode cX6_lead 74 = .ok (.ifCond .eq 7, 3) := by decide +kernel
theorem dX6_lead_77 : decode cX6_lead 77 = .ok (.iconst (-1), 1) := by decide +kernel
theorem dX6_lead_78 : decode cX6_lead 78 = .ok (.goto 10, 3) := by decide +kernel
theorem dX6_lead_81 : decode cX6_lead 81 = .ok (.aload_n 0, 1) := by decide +kernel
theorem dX6_lead_82 : decode cX6_lead 82 = .ok (.aload_n 1, 1) := by decide +kernel
theorem dX6_lead_83 : decode cX6_lead 83 = .ok (.iload 4, 2) := by decide +kernel
theorem dX6_lead_85 : decode cX6_lead 85 = .ok (.invokevirtual 72, 3) := by decide +kernel
theorem dX6_lead_88 : decode cX6_lead 88 = .ok (.istore 6, 2) := by decide +kernel
theorem dX6_lead_90 : decode cX6_lead 90 = .ok (.iload 6, 2) := by decide +kernel
theorem dX6_lead_92 : decode cX6_lead 92 = .ok (.iconst (-1), 1) := by decide +kernel
theorem dX6_lead_93 : decode cX6_lead 93 = .ok (.if_icmp .eq 37, 3) := by decide +kernel
theorem dX6_lead_96 : decode cX6_lead 96 = .ok (.aload_n 0, 1) := by decide +kernel
theorem dX6_lead_97 : decode cX6_lead 97 = .ok (.getfield 18, 3) := by decide +kernel
theorem dX6_lead_100 : decode cX6_lead 100 = .ok (.iload 4, 2) := by decide +kernel
theorem dX6_lead_102 : decode cX6_lead 102 = .ok (.iload 6, 2) := by decide +kernel
theorem dX6_lead_104 : decode cX6_lead 104 = .ok (.invokestatic 39, 3) := by decide +kernel
theorem dX6_lead_107 : decode cX6_lead 107 = .ok (.aload_n 0, 1) := by decide +kernel
theorem dX6_lead_108 : decode cX6_lead 108 = .ok (.getfield 21, 3) := by decide +kernel
theorem dX6_lead_111 : decode cX6_lead 111 = .ok (.iload 6, 2) := by decide +kernel
theorem dX6_lead_113 : decode cX6_lead 113 = .ok (.aload_n 0, 1) := by decide +kernel
theorem dX6_lead_114 : decode cX6_lead 114 = .ok (.getfield 21, 3) := by decide +kernel
theorem dX6_lead_117 : decode cX6_lead 117 = .ok (.iload 6, 2) := by decide +kernel
theorem dX6_lead_119 : decode cX6_lead 119 = .ok (.invokestatic 55, 3) := by decide +kernel
theorem dX6_lead_122 : decode cX6_lead 122 = .ok (.iconst 1, 1) := by decide +kernel
theorem dX6_lead_123 : decode cX6_lead 123 = .ok (.isub, 1) := by decide +kernel
theorem dX6_lead_124 : decode cX6_lead 124 = .ok (.invokestatic 39, 3) := by decide +kernel
theorem dX6_lead_127 : decode cX6_lead 127 = .ok (.iinc 3 1, 3) := by decide +kernel
theorem dX6_lead_130 : decode cX6_lead 130 = .ok (.iinc 4 1, 3) := by decide +kernel
theorem dX6_lead_133 : decode cX6_lead 133 = .ok (.goto (-90), 3) := by decide +kernel
theorem dX6_lead_136 : decode cX6_lead 136 = .ok (.iload_n 3, 1) := by decide +kernel
theorem dX6_lead_137 : decode cX6_lead 137 = .ok (.ireturn, 1) := by decide +kernel
theorem dX6_firstToRing_0 : decode cX6_firstToRing 0 = .ok (.iconst (-1), 1) := by decide +kernel
theorem dX6_firstToRing_1 : decode cX6_firstToRing 1 = .ok (.istore_n 3, 1) := by decide +kernel
theorem dX6_firstToRing_2 : decode cX6_firstToRing 2 = .ok (.bipush 20, 2) := by decide +kernel
theorem dX6_firstToRing_4 : decode cX6_firstToRing 4 = .ok (.istore 4, 2) := by decide +kernel
theorem dX6_firstToRing_6 : decode cX6_firstToRing 6 = .ok (.iconst 0, 1) := by decide +kernel
theorem dX6_firstToRing_7 : decode cX6_firstToRing 7 = .ok (.istore 5, 2) := by decide +kernel
theorem dX6_firstToRing_9 : decode cX6_firstToRing 9 = .ok (.iload 5, 2) := by decide +kernel
theorem dX6_firstToRing_11 : decode cX6_firstToRing 11 = .ok (.aload_n 1, 1) := by decide +kernel
theorem dX6_firstToRing_12 : decode cX6_firstToRing 12 = .ok (.getfield 24, 3) := by decide +kernel
theorem dX6_firstToRing_15 : decode cX6_firstToRing 15 = .ok (.if_icmp .ge 93, 3) := by decide +kernel
theorem dX6_firstToRing_18 : decode cX6_firstToRing 18 = .ok (.aload_n 0, 1) := by decide +kernel
theorem dX6_firstToRing_19 : decode cX6_firstToRing 19 = .ok (.getfield 21, 3) := by decide +kernel
theorem dX6_firstToRing_22 : decode cX6_firstToRing 22 = .ok (.iload 5, 2) := by decide +kernel
theorem dX6_firstToRing_24 : decode cX6_firstToRing 24 = .ok (.invokestatic 55, 3) := by decide +kernel
theorem dX6_firstToRing_27 : decode cX6_firstToRing 27 = .ok (.ifCond .le 75, 3) := by decide +kernel
theorem dX6_firstToRing_30 : decode cX6_firstToRing 30 = .ok (.aload_n 0, 1) := by decide +kernel
theorem dX6_firstToRing_31 : decode cX6_firstToRing 31 = .ok (.iload 5, 2) := by decide +kernel
theorem dX6_firstToRing_33 : decode cX6_firstToRing 33 = .ok (.iload_n 2, 1) := by decide +kernel
theorem dX6_firstToRing_34 : decode cX6_firstToRing 34 = .ok (.invokevirtual 76, 3) := by decide +kernel
theorem dX6_firstToRing_37 : decode cX6_firstToRing 37 = .ok (.ifCond .eq 65, 3) := by decide +kernel
theorem dX6_firstToRing_40 : decode cX6_firstToRing 40 = .ok (.aload_n 1, 1) := by decide +kernel
theorem dX6_firstToRing_41 : decode cX6_firstToRing 41 = .ok (.aload_n 1, 1) := by decide +kernel
theorem dX6_firstToRing_42 : decode cX6_firstToRing 42 = .ok (.iload 5, 2) := by decide +kernel
theorem dX6_firstToRing_44 : decode cX6_firstToRing 44 = .ok (.iconst 0, 1) := by decide +kernel
theorem dX6_firstToRing_45 : decode cX6_firstToRing 45 = .ok (.invokevirtual 65, 3) := by decide +kernel
theorem dX6_firstToRing_48 : decode cX6_firstToRing 48 = .ok (.invokevirtual 79, 3) := by decide +kernel
theorem dX6_firstToRing_51 : decode cX6_firstToRing 51 = .ok (.istore 6, 2) := by decide +kernel
theorem dX6_firstToRing_53 : decode cX6_firstToRing 53 = .ok (.iload 6, 2) := by decide +kernel
theorem dX6_firstToRing_55 : decode cX6_firstToRing 55 = .ok (.iload 4, 2) := by decide +kernel
theorem dX6_firstToRing_57 : decode cX6_firstToRing 57 = .ok (.if_icmp .ne 23, 3) := by decide +kernel
theorem dX6_firstToRing_60 : decode cX6_firstToRing 60 = .ok (.aload_n 0, 1) := by decide +kernel
theorem dX6_firstToRing_61 : decode cX6_firstToRing 61 = .ok (.iload 5, 2) := by decide +kernel
theorem dX6_firstToRing_63 : decode cX6_firstToRing 63 = .ok (.iload_n 2, 1) := by decide +kernel
theorem dX6_firstToRing_64 : decode cX6_firstToRing 64 = .ok (.invokevirtual 47, 3) := by decide +kernel
theorem dX6_firstToRing_67 : decode cX6_firstToRing 67 = .ok (.aload_n 0, 1) := by decide +kernel
theorem dX6_firstToRing_68 : decode cX6_firstToRing 68 = .ok (.iload_n 3, 1) := by decide +kernel
theorem dX6_firstToRing_69 : decode cX6_firstToRing 69 = .ok (.iload_n 2, 1) := by decide +kernel
theorem dX6_firstToRing_70 : decode cX6_firstToRing 70 = .ok (.invokevirtual 47, 3) := by decide +kernel
theorem dX6_firstToRing_73 : decode cX6_firstToRing 73 = .ok (.if_icmp .le 7, 3) := by decide +kernel
theorem dX6_firstToRing_76 : decode cX6_firstToRing 76 = .ok (.iconst 1, 1) := by decide +kernel
theorem dX6_firstToRing_77 : decode cX6_firstToRing 77 = .ok (.goto 4, 3) := by decide +kernel
theorem dX6_firstToRing_80 : decode cX6_firstToRing 80 = .ok (.iconst 0, 1) := by decide +kernel
theorem dX6_firstToRing_81 : decode cX6_firstToRing 81 = .ok (.istore 7, 2) := by decide +kernel
theorem dX6_firstToRing_83 : decode cX6_firstToRing 83 = .ok (.iload 6, 2) := by decide +kernel
theorem dX6_firstToRing_85 : decode cX6_firstToRing 85 = .ok (.iload 4, 2) := by decide +kernel
theorem dX6_firstToRing_87 : decode cX6_firstToRing 87 = .ok (.if_icmp .lt 8, 3) := by decide +kernel
theorem dX6_firstToRing_90 : decode cX6_firstToRing 90 = .ok (.iload 7, 2) := by decide +kernel
theorem dX6_firstToRing_92 : decode cX6_firstToRing 92 = .ok (.ifCond .eq 10, 3) := by decide +kernel
theorem dX6_firstToRing_95 : decode cX6_firstToRing 95 = .ok (.iload 5, 2) := by decide +kernel
theorem dX6_firstToRing_97 : decode cX6_firstToRing 97 = .ok (.istore_n 3, 1) := by decide +kernel
theorem dX6_firstToRing_98 : decode cX6_firstToRing 98 = .ok (.iload 6, 2) := by decide +kernel
theorem dX6_firstToRing_100 : decode cX6_firstToRing 100 = .ok (.istore 4, 2) := by decide +kernel
theorem dX6_firstToRing_102 : decode cX6_firstToRing 102 = .ok (.iinc 5 1, 3) := by decide +kernel
theorem dX6_firstToRing_105 : decode cX6_firstToRing 105 = .ok (.goto (-96), 3) := by decide +kernel
theorem dX6_firstToRing_108 : decode cX6_firstToRing 108 = .ok (.iload_n 3, 1) := by decide +kernel
theorem dX6_firstToRing_109 : decode cX6_firstToRing 109 = .ok (.ireturn, 1) := by decide +kernel
theorem dX6_passDay_0 : decode cX6_passDay 0 = .ok (.aload_n 0, 1) := by decide +kernel
theorem dX6_passDay_1 : decode cX6_passDay 1 = .ok (.aload_n 1, 1) := by decide +kernel
theorem dX6_passDay_2 : decode cX6_passDay 2 = .ok (.aload_n 2, 1) := by decide +kernel
theorem dX6_passDay_3 : decode cX6_passDay 3 = .ok (.invokevirtual 83, 3) := by decide +kernel
theorem dX6_passDay_6 : decode cX6_passDay 6 = .ok (.aload_n 0, 1) := by decide +kernel
theorem dX6_passDay_7 : decode cX6_passDay 7 = .ok (.aload_n 1, 1) := by decide +kernel
theorem dX6_passDay_8 : decode cX6_passDay 8 = .ok (.iload_n 3, 1) := by decide +kernel
theorem dX6_passDay_9 : decode cX6_passDay 9 = .ok (.invokevirtual 87, 3) := by decide +kernel
theorem dX6_passDay_12 : decode cX6_passDay 12 = .ok (.istore 4, 2) := by decide +kernel
theorem dX6_passDay_14 : decode cX6_passDay 14 = .ok (.iconst 0, 1) := by decide +kernel
theorem dX6_passDay_15 : decode cX6_passDay 15 = .ok (.istore 5, 2) := by decide +kernel
theorem dX6_passDay_17 : decode cX6_passDay 17 = .ok (.iload 5, 2) := by decide +kernel
theorem dX6_passDay_19 : decode cX6_passDay 19 = .ok (.aload_n 1, 1) := by decide +kernel
theorem dX6_passDay_20 : decode cX6_passDay 20 = .ok (.getfield 30, 3) := by decide +kernel
theorem dX6_passDay_23 : decode cX6_passDay 23 = .ok (.if_icmp .ge 42, 3) := by decide +kernel
theorem dX6_passDay_26 : decode cX6_passDay 26 = .ok (.aload_n 0, 1) := by decide +kernel
theorem dX6_passDay_27 : decode cX6_passDay 27 = .ok (.getfield 18, 3) := by decide +kernel
theorem dX6_passDay_30 : decode cX6_passDay 30 = .ok (.iload 5, 2) := by decide +kernel
theorem dX6_passDay_32 : decode cX6_passDay 32 = .ok (.invokestatic 55, 3) := by decide +kernel
theorem dX6_passDay_35 : decode cX6_passDay 35 = .ok (.istore 6, 2) := by decide +kernel
theorem dX6_passDay_37 : decode cX6_passDay 37 = .ok (.iload 6, 2) := by decide +kernel
theorem dX6_passDay_39 : decode cX6_passDay 39 = .ok (.iconst (-1), 1) := by decide +kernel
theorem dX6_passDay_40 : decode cX6_passDay 40 = .ok (.if_icmp .eq 19, 3) := by decide +kernel
theorem dX6_passDay_43 : decode cX6_passDay 43 = .ok (.aload_n 1, 1) := by decide +kernel
theorem dX6_passDay_44 : decode cX6_passDay 44 = .ok (.iload 5, 2) := by decide +kernel
theorem dX6_passDay_46 : decode cX6_passDay 46 = .ok (.iload 6, 2) := by decide +kernel
theorem dX6_passDay_48 : decode cX6_passDay 48 = .ok (.aload_n 0, 1) := by decide +kernel
theorem dX6_passDay_49 : decode cX6_passDay 49 = .ok (.iload 6, 2) := by decide +kernel
theorem dX6_passDay_51 : decode cX6_passDay 51 = .ok (.iload 5, 2) := by decide +kernel
theorem dX6_passDay_53 : decode cX6_passDay 53 = .ok (.invokevirtual 47, 3) := by decide +kernel
theorem dX6_passDay_56 : decode cX6_passDay 56 = .ok (.invokevirtual 91, 3) := by decide +kernel
theorem dX6_passDay_59 : decode cX6_passDay 59 = .ok (.iinc 5 1, 3) := by decide +kernel
theorem dX6_passDay_62 : decode cX6_passDay 62 = .ok (.goto (-45), 3) := by decide +kernel
theorem dX6_passDay_65 : decode cX6_passDay 65 = .ok (.iconst 0, 1) := by decide +kernel
theorem dX6_passDay_66 : decode cX6_passDay 66 = .ok (.istore 5, 2) := by decide +kernel
theorem dX6_passDay_68 : decode cX6_passDay 68 = .ok (.iload 5, 2) := by decide +kernel
theorem dX6_passDay_70 : decode cX6_passDay 70 = .ok (.aload_n 1, 1) := by decide +kernel
theorem dX6_passDay_71 : decode cX6_passDay 71 = .ok (.getfield 24, 3) := by decide +kernel
theorem dX6_passDay_74 : decode cX6_passDay 74 = .ok (.if_icmp .ge 58, 3) := by decide +kernel
theorem dX6_passDay_77 : decode cX6_passDay 77 = .ok (.aload_n 1, 1) := by decide +kernel
theorem dX6_passDay_78 : decode cX6_passDay 78 = .ok (.iload 5, 2) := by decide +kernel
theorem dX6_passDay_80 : decode cX6_passDay 80 = .ok (.iconst 3, 1) := by decide +kernel
theorem dX6_passDay_81 : decode cX6_passDay 81 = .ok (.invokevirtual 65, 3) := by decide +kernel
theorem dX6_passDay_84 : decode cX6_passDay 84 = .ok (.iconst 1, 1) := by decide +kernel
theorem dX6_passDay_85 : decode cX6_passDay 85 = .ok (.if_icmp .ne 41, 3) := by decide +kernel
theorem dX6_passDay_88 : decode cX6_passDay 88 = .ok (.aload_n 1, 1) := by decide +kernel
theorem dX6_passDay_89 : decode cX6_passDay 89 = .ok (.iload 5, 2) := by decide +kernel
theorem dX6_passDay_91 : decode cX6_passDay 91 = .ok (.iconst 4, 1) := by decide +kernel
theorem dX6_passDay_92 : decode cX6_passDay 92 = .ok (.invokevirtual 65, 3) := by decide +kernel
theorem dX6_passDay_95 : decode cX6_passDay 95 = .ok (.iconst 1, 1) := by decide +kernel
theorem dX6_passDay_96 : decode cX6_passDay 96 = .ok (.iadd, 1) := by decide +kernel
theorem dX6_passDay_97 : decode cX6_passDay 97 = .ok (.bipush 99, 2) := by decide +kernel
theorem dX6_passDay_99 : decode cX6_passDay 99 = .ok (.invokestatic 95, 3) := by decide +kernel
theorem dX6_passDay_102 : decode cX6_passDay 102 = .ok (.istore 6, 2) := by decide +kernel
theorem dX6_passDay_104 : decode cX6_passDay 104 = .ok (.aload_n 1, 1) := by decide +kernel
theorem dX6_passDay_105 : decode cX6_passDay 105 = .ok (.iload 5, 2) := by decide +kernel
theorem dX6_passDay_107 : decode cX6_passDay 107 = .ok (.iconst 4, 1) := by decide +kernel
theorem dX6_passDay_108 : decode cX6_passDay 108 = .ok (.aload_n 0, 1) := by decide +kernel
theorem dX6_passDay_109 : decode cX6_passDay 109 = .ok (.iload 5, 2) := by decide +kernel
theorem dX6_passDay_111 : decode cX6_passDay 111 = .ok (.invokevirtual 100, 3) := by decide +kernel
theorem dX6_passDay_114 : decode cX6_passDay 114 = .ok (.ifCond .eq 7, 3) := by decide +kernel
theorem dX6_passDay_117 : decode cX6_passDay 117 = .ok (.iconst 0, 1) := by decide +kernel
theorem dX6_passDay_118 : decode cX6_passDay 118 = .ok (.goto 5, 3) := by decide +kernel
theorem dX6_passDay_121 : decode cX6_passDay 121 = .ok (.iload 6, 2) := by decide +kernel
theorem dX6_passDay_123 : decode cX6_passDay 123 = .ok (.invokevirtual 103, 3) := by decide +kernel
theorem dX6_passDay_126 : decode cX6_passDay 126 = .ok (.iinc 5 1, 3) := by decide +kernel
theorem dX6_passDay_129 : decode cX6_passDay 129 = .ok (.goto (-61), 3) := by decide +kernel
theorem dX6_passDay_132 : decode cX6_passDay 132 = .ok (.aload_n 1, 1) := by decide +kernel
theorem dX6_passDay_133 : decode cX6_passDay 133 = .ok (.dup, 1) := by decide +kernel
theorem dX6_passDay_134 : decode cX6_passDay 134 = .ok (.getfield 106, 3) := by decide +kernel
theorem dX6_passDay_137 : decode cX6_passDay 137 = .ok (.iconst 1, 1) := by decide +kernel
theorem dX6_passDay_138 : decode cX6_passDay 138 = .ok (.iadd, 1) := by decide +kernel
theorem dX6_passDay_139 : decode cX6_passDay 139 = .ok (.putfield 106, 3) := by decide +kernel
theorem dX6_passDay_142 : decode cX6_passDay 142 = .ok (.iload 4, 2) := by decide +kernel
theorem dX6_passDay_144 : decode cX6_passDay 144 = .ok (.ireturn, 1) := by decide +kernel
theorem dX6_hadBy_0 : decode cX6_hadBy 0 = .ok (.iconst 0, 1) := by decide +kernel
theorem dX6_hadBy_1 : decode cX6_hadBy 1 = .ok (.istore_n 2, 1) := by decide +kernel
theorem dX6_hadBy_2 : decode cX6_hadBy 2 = .ok (.iconst 0, 1) := by decide +kernel
theorem dX6_hadBy_3 : decode cX6_hadBy 3 = .ok (.istore_n 3, 1) := by decide +kernel
theorem dX6_hadBy_4 : decode cX6_hadBy 4 = .ok (.iload_n 3, 1) := by decide +kernel
theorem dX6_hadBy_5 : decode cX6_hadBy 5 = .ok (.bipush 10, 2) := by decide +kernel
theorem dX6_hadBy_7 : decode cX6_hadBy 7 = .ok (.if_icmp .ge 27, 3) := by decide +kernel
theorem dX6_hadBy_10 : decode cX6_hadBy 10 = .ok (.aload_n 0, 1) := by decide +kernel
theorem dX6_hadBy_11 : decode cX6_hadBy 11 = .ok (.getfield 18, 3) := by decide +kernel
theorem dX6_hadBy_14 : decode cX6_hadBy 14 = .ok (.iload_n 3, 1) := by decide +kernel
theorem dX6_hadBy_15 : decode cX6_hadBy 15 = .ok (.invokestatic 55, 3) := by decide +kernel
theorem dX6_hadBy_18 : decode cX6_hadBy 18 = .ok (.iload_n 1, 1) := by decide +kernel
theorem dX6_hadBy_19 : decode cX6_hadBy 19 = .ok (.if_icmp .ne 9, 3) := by decide +kernel
theorem dX6_hadBy_22 : decode cX6_hadBy 22 = .ok (.iload_n 2, 1) := by decide +kernel
theorem dX6_hadBy_23 : decode cX6_hadBy 23 = .ok (.iconst 1, 1) := by decide +kernel
theorem dX6_hadBy_24 : decode cX6_hadBy 24 = .ok (.iload_n 3, 1) := by decide +kernel
theorem dX6_hadBy_25 : decode cX6_hadBy 25 = .ok (.ishl, 1) := by decide +kernel
theorem dX6_hadBy_26 : decode cX6_hadBy 26 = .ok (.ior, 1) := by decide +kernel
theorem dX6_hadBy_27 : decode cX6_hadBy 27 = .ok (.istore_n 2, 1) := by decide +kernel
theorem dX6_hadBy_28 : decode cX6_hadBy 28 = .ok (.iinc 3 1, 3) := by decide +kernel
theorem dX6_hadBy_31 : decode cX6_hadBy 31 = .ok (.goto (-27), 3) := by decide +kernel
theorem dX6_hadBy_34 : decode cX6_hadBy 34 = .ok (.iload_n 2, 1) := by decide +kernel
theorem dX6_hadBy_35 : decode cX6_hadBy 35 = .ok (.ireturn, 1) := by decide +kernel
theorem dX6_hadAtAll_0 : decode cX6_hadAtAll 0 = .ok (.iconst 0, 1) := by decide +kernel
theorem dX6_hadAtAll_1 : decode cX6_hadAtAll 1 = .ok (.istore_n 1, 1) := by decide +kernel
theorem dX6_hadAtAll_2 : decode cX6_hadAtAll 2 = .ok (.iconst 0, 1) := by decide +kernel
theorem dX6_hadAtAll_3 : decode cX6_hadAtAll 3 = .ok (.istore_n 2, 1) := by decide +kernel
theorem dX6_hadAtAll_4 : decode cX6_hadAtAll 4 = .ok (.iload_n 2, 1) := by decide +kernel
theorem dX6_hadAtAll_5 : decode cX6_hadAtAll 5 = .ok (.bipush 10, 2) := by decide +kernel
theorem dX6_hadAtAll_7 : decode cX6_hadAtAll 7 = .ok (.if_icmp .ge 27, 3) := by decide +kernel
theorem dX6_hadAtAll_10 : decode cX6_hadAtAll 10 = .ok (.aload_n 0, 1) := by decide +kernel
theorem dX6_hadAtAll_11 : decode cX6_hadAtAll 11 = .ok (.getfield 18, 3) := by decide +kernel
theorem dX6_hadAtAll_14 : decode cX6_hadAtAll 14 = .ok (.iload_n 2, 1) := by decide +kernel
theorem dX6_hadAtAll_15 : decode cX6_hadAtAll 15 = .ok (.invokestatic 55, 3) := by decide +kernel
theorem dX6_hadAtAll_18 : decode cX6_hadAtAll 18 = .ok (.iconst (-1), 1) := by decide +kernel
theorem dX6_hadAtAll_19 : decode cX6_hadAtAll 19 = .ok (.if_icmp .eq 9, 3) := by decide +kernel
theorem dX6_hadAtAll_22 : decode cX6_hadAtAll 22 = .ok (.iload_n 1, 1) := by decide +kernel
theorem dX6_hadAtAll_23 : decode cX6_hadAtAll 23 = .ok (.iconst 1, 1) := by decide +kernel
theorem dX6_hadAtAll_24 : decode cX6_hadAtAll 24 = .ok (.iload_n 2, 1) := by decide +kernel
theorem dX6_hadAtAll_25 : decode cX6_hadAtAll 25 = .ok (.ishl, 1) := by decide +kernel
theorem dX6_hadAtAll_26 : decode cX6_hadAtAll 26 = .ok (.ior, 1) := by decide +kernel
theorem dX6_hadAtAll_27 : decode cX6_hadAtAll 27 = .ok (.istore_n 1, 1) := by decide +kernel
theorem dX6_hadAtAll_28 : decode cX6_hadAtAll 28 = .ok (.iinc 2 1, 3) := by decide +kernel
theorem dX6_hadAtAll_31 : decode cX6_hadAtAll 31 = .ok (.goto (-27), 3) := by decide +kernel
theorem dX6_hadAtAll_34 : decode cX6_hadAtAll 34 = .ok (.iload_n 1, 1) := by decide +kernel
theorem dX6_hadAtAll_35 : decode cX6_hadAtAll 35 = .ok (.ireturn, 1) := by decide +kernel
theorem dX6_likedBy_0 : decode cX6_likedBy 0 = .ok (.iconst 0, 1) := by decide +kernel
theorem dX6_likedBy_1 : decode cX6_likedBy 1 = .ok (.istore_n 2, 1) := by decide +kernel
theorem dX6_likedBy_2 : decode cX6_likedBy 2 = .ok (.iconst 0, 1) := by decide +kernel
theorem dX6_likedBy_3 : decode cX6_likedBy 3 = .ok (.istore_n 3, 1) := by decide +kernel
theorem dX6_likedBy_4 : decode cX6_likedBy 4 = .ok (.iload_n 3, 1) := by decide +kernel
theorem dX6_likedBy_5 : decode cX6_likedBy 5 = .ok (.bipush 10, 2) := by decide +kernel
theorem dX6_likedBy_7 : decode cX6_likedBy 7 = .ok (.if_icmp .ge 30, 3) := by decide +kernel
theorem dX6_likedBy_10 : decode cX6_likedBy 10 = .ok (.aload_n 0, 1) := by decide +kernel
theorem dX6_likedBy_11 : decode cX6_likedBy 11 = .ok (.getfield 18, 3) := by decide +kernel
theorem dX6_likedBy_14 : decode cX6_likedBy 14 = .ok (.iload_n 3, 1) := by decide +kernel
theorem dX6_likedBy_15 : decode cX6_likedBy 15 = .ok (.invokestatic 55, 3) := by decide +kernel
theorem dX6_likedBy_18 : decode cX6_likedBy 18 = .ok (.iload_n 1, 1) := by decide +kernel
theorem dX6_likedBy_19 : decode cX6_likedBy 19 = .ok (.if_icmp .ne 12, 3) := by decide +kernel
theorem dX6_likedBy_22 : decode cX6_likedBy 22 = .ok (.iload_n 2, 1) := by decide +kernel
theorem dX6_likedBy_23 : decode cX6_likedBy 23 = .ok (.aload_n 0, 1) := by decide +kernel
theorem dX6_likedBy_24 : decode cX6_likedBy 24 = .ok (.iload_n 1, 1) := by decide +kernel
theorem dX6_likedBy_25 : decode cX6_likedBy 25 = .ok (.iload_n 3, 1) := by decide +kernel
theorem dX6_likedBy_26 : decode cX6_likedBy 26 = .ok (.invokevirtual 47, 3) := by decide +kernel
theorem dX6_likedBy_29 : decode cX6_likedBy 29 = .ok (.iadd, 1) := by decide +kernel
theorem dX6_likedBy_30 : decode cX6_likedBy 30 = .ok (.istore_n 2, 1) := by decide +kernel
theorem dX6_likedBy_31 : decode cX6_likedBy 31 = .ok (.iinc 3 1, 3) := by decide +kernel
theorem dX6_likedBy_34 : decode cX6_likedBy 34 = .ok (.goto (-30), 3) := by decide +kernel
theorem dX6_likedBy_37 : decode cX6_likedBy 37 = .ok (.iload_n 2, 1) := by decide +kernel
theorem dX6_likedBy_38 : decode cX6_likedBy 38 = .ok (.ireturn, 1) := by decide +kernel
theorem dX6_envied_0 : decode cX6_envied 0 = .ok (.iconst 0, 1) := by decide +kernel
theorem dX6_envied_1 : decode cX6_envied 1 = .ok (.istore_n 2, 1) := by decide +kernel
theorem dX6_envied_2 : decode cX6_envied 2 = .ok (.iconst 0, 1) := by decide +kernel
theorem dX6_envied_3 : decode cX6_envied 3 = .ok (.istore_n 3, 1) := by decide +kernel
theorem dX6_envied_4 : decode cX6_envied 4 = .ok (.iload_n 3, 1) := by decide +kernel
theorem dX6_envied_5 : decode cX6_envied 5 = .ok (.bipush 10, 2) := by decide +kernel
theorem dX6_envied_7 : decode cX6_envied 7 = .ok (.if_icmp .ge 32, 3) := by decide +kernel
theorem dX6_envied_10 : decode cX6_envied 10 = .ok (.aload_n 0, 1) := by decide +kernel
theorem dX6_envied_11 : decode cX6_envied 11 = .ok (.getfield 18, 3) := by decide +kernel
theorem dX6_envied_14 : decode cX6_envied 14 = .ok (.iload_n 3, 1) := by decide +kernel
theorem dX6_envied_15 : decode cX6_envied 15 = .ok (.invokestatic 55, 3) := by decide +kernel
theorem dX6_envied_18 : decode cX6_envied 18 = .ok (.iload_n 1, 1) := by decide +kernel
theorem dX6_envied_19 : decode cX6_envied 19 = .ok (.if_icmp .ne 14, 3) := by decide +kernel
theorem dX6_envied_22 : decode cX6_envied 22 = .ok (.iload_n 2, 1) := by decide +kernel
theorem dX6_envied_23 : decode cX6_envied 23 = .ok (.aload_n 0, 1) := by decide +kernel
theorem dX6_envied_24 : decode cX6_envied 24 = .ok (.iload_n 1, 1) := by decide +kernel
theorem dX6_envied_25 : decode cX6_envied 25 = .ok (.iload_n 3, 1) := by decide +kernel
theorem dX6_envied_26 : decode cX6_envied 26 = .ok (.invokevirtual 47, 3) := by decide +kernel
theorem dX6_envied_29 : decode cX6_envied 29 = .ok (.invokestatic 109, 3) := by decide +kernel
theorem dX6_envied_32 : decode cX6_envied 32 = .ok (.istore_n 2, 1) := by decide +kernel
theorem dX6_envied_33 : decode cX6_envied 33 = .ok (.iinc 3 1, 3) := by decide +kernel
theorem dX6_envied_36 : decode cX6_envied 36 = .ok (.goto (-32), 3) := by decide +kernel
theorem dX6_envied_39 : decode cX6_envied 39 = .ok (.iconst 0, 1) := by decide +kernel
theorem dX6_envied_40 : decode cX6_envied 40 = .ok (.istore_n 3, 1) := by decide +kernel
theorem dX6_envied_41 : decode cX6_envied 41 = .ok (.iconst 0, 1) := by decide +kernel
theorem dX6_envied_42 : decode cX6_envied 42 = .ok (.istore 4, 2) := by decide +kernel
theorem dX6_envied_44 : decode cX6_envied 44 = .ok (.iload 4, 2) := by decide +kernel
theorem dX6_envied_46 : decode cX6_envied 46 = .ok (.bipush 10, 2) := by decide +kernel
theorem dX6_envied_48 : decode cX6_envied 48 = .ok (.if_icmp .ge 75, 3) := by decide +kernel
theorem dX6_envied_51 : decode cX6_envied 51 = .ok (.aload_n 0, 1) := by decide +kernel
theorem dX6_envied_52 : decode cX6_envied 52 = .ok (.getfield 18, 3) := by decide +kernel
theorem dX6_envied_55 : decode cX6_envied 55 = .ok (.iload 4, 2) := by decide +kernel
theorem dX6_envied_57 : decode cX6_envied 57 = .ok (.invokestatic 55, 3) := by decide +kernel
theorem dX6_envied_60 : decode cX6_envied 60 = .ok (.iconst (-1), 1) := by decide +kernel
theorem dX6_envied_61 : decode cX6_envied 61 = .ok (.if_icmp .eq 20, 3) := by decide +kernel
theorem dX6_envied_64 : decode cX6_envied 64 = .ok (.aload_n 0, 1) := by decide +kernel
theorem dX6_envied_65 : decode cX6_envied 65 = .ok (.getfield 18, 3) := by decide +kernel
theorem dX6_envied_68 : decode cX6_envied 68 = .ok (.iload 4, 2) := by decide +kernel
theorem dX6_envied_70 : decode cX6_envied 70 = .ok (.invokestatic 55, 3) := by decide +kernel
theorem dX6_envied_73 : decode cX6_envied 73 = .ok (.iload_n 1, 1) := by decide +kernel
theorem dX6_envied_74 : decode cX6_envied 74 = .ok (.if_icmp .eq 7, 3) := by decide +kernel
theorem dX6_envied_77 : decode cX6_envied 77 = .ok (.iconst 1, 1) := by decide +kernel
theorem dX6_envied_78 : decode cX6_envied 78 = .ok (.goto 4, 3) := by decide +kernel
theorem dX6_envied_81 : decode cX6_envied 81 = .ok (.iconst 0, 1) := by decide +kernel
theorem dX6_envied_82 : decode cX6_envied 82 = .ok (.istore 5, 2) := by decide +kernel
theorem dX6_envied_84 : decode cX6_envied 84 = .ok (.iload 5, 2) := by decide +kernel
theorem dX6_envied_86 : decode cX6_envied 86 = .ok (.ifCond .eq 31, 3) := by decide +kernel
theorem dX6_envied_89 : decode cX6_envied 89 = .ok (.aload_n 0, 1) := by decide +kernel
theorem dX6_envied_90 : decode cX6_envied 90 = .ok (.iload_n 1, 1) := by decide +kernel
theorem dX6_envied_91 : decode cX6_envied 91 = .ok (.iload 4, 2) := by decide +kernel
theorem dX6_envied_93 : decode cX6_envied 93 = .ok (.invokevirtual 76, 3) := by decide +kernel
theorem dX6_envied_96 : decode cX6_envied 96 = .ok (.ifCond .eq 21, 3) := by decide +kernel
theorem dX6_envied_99 : decode cX6_envied 99 = .ok (.aload_n 0, 1) := by decide +kernel
theorem dX6_envied_100 : decode cX6_envied 100 = .ok (.iload_n 1, 1) := by decide +kernel
theorem dX6_envied_101 : decode cX6_envied 101 = .ok (.iload 4, 2) := by decide +kernel
theorem dX6_envied_103 : decode cX6_envied 103 = .ok (.invokevirtual 47, 3) := by decide +kernel
theorem dX6_envied_106 : decode cX6_envied 106 = .ok (.iload_n 2, 1) := by decide +kernel
theorem dX6_envied_107 : decode cX6_envied 107 = .ok (.if_icmp .le 10, 3) := by decide +kernel
theorem dX6_envied_110 : decode cX6_envied 110 = .ok (.iload_n 3, 1) := by decide +kernel
theorem dX6_envied_111 : decode cX6_envied 111 = .ok (.iconst 1, 1) := by decide +kernel
theorem dX6_envied_112 : decode cX6_envied 112 = .ok (.iload 4, 2) := by decide +kernel
theorem dX6_envied_114 : decode cX6_envied 114 = .ok (.ishl, 1) := by decide +kernel
theorem dX6_envied_115 : decode cX6_envied 115 = .ok (.ior, 1) := by decide +kernel
theorem dX6_envied_116 : decode cX6_envied 116 = .ok (.istore_n 3, 1) := by decide +kernel
theorem dX6_envied_117 : decode cX6_envied 117 = .ok (.iinc 4 1, 3) := by decide +kernel
theorem dX6_envied_120 : decode cX6_envied 120 = .ok (.goto (-76), 3) := by decide +kernel
theorem dX6_envied_123 : decode cX6_envied 123 = .ok (.iload_n 3, 1) := by decide +kernel
theorem dX6_envied_124 : decode cX6_envied 124 = .ok (.ireturn, 1) := by decide +kernel
theorem dX7_init_0 : decode cX7_init 0 = .ok (.aload_n 0, 1) := by decide +kernel
theorem dX7_init_1 : decode cX7_init 1 = .ok (.invokespecial 3, 3) := by decide +kernel
theorem dX7_init_4 : decode cX7_init 4 = .ok (.aload_n 0, 1) := by decide +kernel
theorem dX7_init_5 : decode cX7_init 5 = .ok (.sipush 401, 3) := by decide +kernel
theorem dX7_init_8 : decode cX7_init 8 = .ok (.anewarray 9, 3) := by decide +kernel
theorem dX7_init_11 : decode cX7_init 11 = .ok (.putfield 11, 3) := by decide +kernel
theorem dX7_init_14 : decode cX7_init 14 = .ok (.aload_n 0, 1) := by decide +kernel
theorem dX7_init_15 : decode cX7_init 15 = .ok (.sipush 401, 3) := by decide +kernel
theorem dX7_init_18 : decode cX7_init 18 = .ok (.newarray .int, 2) := by decide +kernel
theorem dX7_init_20 : decode cX7_init 20 = .ok (.putfield 17, 3) := by decide +kernel
theorem dX7_init_23 : decode cX7_init 23 = .ok (.aload_n 0, 1) := by decide +kernel
theorem dX7_init_24 : decode cX7_init 24 = .ok (.sipush 401, 3) := by decide +kernel
theorem dX7_init_27 : decode cX7_init 27 = .ok (.newarray .int, 2) := by decide +kernel
theorem dX7_init_29 : decode cX7_init 29 = .ok (.putfield 21, 3) := by decide +kernel
theorem dX7_init_32 : decode cX7_init 32 = .ok (.aload_n 0, 1) := by decide +kernel
theorem dX7_init_33 : decode cX7_init 33 = .ok (.getstatic 24, 3) := by decide +kernel
theorem dX7_init_36 : decode cX7_init 36 = .ok (.putfield 28, 3) := by decide +kernel
theorem dX7_init_39 : decode cX7_init 39 = .ok (.aload_n 0, 1) := by decide +kernel
theorem dX7_init_40 : decode cX7_init 40 = .ok (.iconst (-1), 1) := by decide +kernel
theorem dX7_init_41 : decode cX7_init 41 = .ok (.putfield 31, 3) := by decide +kernel
theorem dX7_init_44 : decode cX7_init 44 = .ok (.return_, 1) := by decide +kernel
theorem dX7_open_0 : decode cX7_open 0 = .ok (.aload_n 0, 1) := by decide +kernel
theorem dX7_open_1 : decode cX7_open 1 = .ok (.iconst 0, 1) := by decide +kernel
theorem dX7_open_2 : decode cX7_open 2 = .ok (.putfield 35, 3) := by decide +kernel
theorem dX7_open_5 : decode cX7_open 5 = .ok (.iconst 0, 1) := by decide +kernel
theorem dX7_open_6 : decode cX7_open 6 = .ok (.istore_n 3, 1) := by decide +kernel
theorem dX7_open_7 : decode cX7_open 7 = .ok (.iload_n 3, 1) := by decide +kernel
theorem dX7_open_8 : decode cX7_open 8 = .ok (.iload_n 2, 1) := by decide +kernel
theorem dX7_open_9 : decode cX7_open 9 = .ok (.if_icmp .ge 119, 3) := by decide +kernel
theorem dX7_open_12 : decode cX7_open 12 = .ok (.aload_n 1, 1) := by decide +kernel
theorem dX7_open_13 : decode cX7_open 13 = .ok (.iload_n 3, 1) := by decide +kernel
theorem dX7_open_14 : decode cX7_open 14 = .ok (.invokestatic 38, 3) := by decide +kernel
theorem dX7_open_17 : decode cX7_open 17 = .ok (.istore 4, 2) := by decide +kernel
theorem dX7_open_19 : decode cX7_open 19 = .ok (.iload_n 3, 1) := by decide +kernel
theorem dX7_open_20 : decode cX7_open 20 = .ok (.iconst 1, 1) := by decide +kernel
theorem dX7_open_21 : decode cX7_open 21 = .ok (.iadd, 1) := by decide +kernel
theorem dX7_open_22 : decode cX7_open 22 = .ok (.istore 5, 2) := by decide +kernel
theorem dX7_open_24 : decode cX7_open 24 = .ok (.iload 4, 2) := by decide +kernel
theorem dX7_open_26 : decode cX7_open 26 = .ok (.invokestatic 42, 3) := by decide +kernel
theorem dX7_open_29 : decode cX7_open 29 = .ok (.ifCond .eq 33, 3) := by decide +kernel
theorem dX7_open_32 : decode cX7_open 32 = .ok (.aload_n 1, 1) := by decide +kernel
theorem dX7_open_33 : decode cX7_open 33 = .ok (.iload_n 3, 1) := by decide +kernel
theorem dX7_open_34 : decode cX7_open 34 = .ok (.iload_n 2, 1) := by decide +kernel
theorem dX7_open_35 : decode cX7_open 35 = .ok (.invokestatic 46, 3) := by decide +kernel
theorem dX7_open_38 : decode cX7_open 38 = .ok (.istore 5, 2) := by decide +kernel
theorem dX7_open_40 : decode cX7_open 40 = .ok (.aload_n 0, 1) := by decide +kernel
theorem dX7_open_41 : decode cX7_open 41 = .ok (.aload_n 1, 1) := by decide +kernel
theorem dX7_open_42 : decode cX7_open 42 = .ok (.iload_n 3, 1) := by decide +kernel
theorem dX7_open_43 : decode cX7_open 43 = .ok (.iload 5, 2) := by decide +kernel
theorem dX7_open_45 : decode cX7_open 45 = .ok (.invokestatic 50, 3) := by decide +kernel
theorem dX7_open_48 : decode cX7_open 48 = .ok (.iload_n 3, 1) := by decide +kernel
theorem dX7_open_49 : decode cX7_open 49 = .ok (.aload_n 1, 1) := by decide +kernel
theorem dX7_open_50 : decode cX7_open 50 = .ok (.iload_n 3, 1) := by decide +kernel
theorem dX7_open_51 : decode cX7_open 51 = .ok (.iload 5, 2) := by decide +kernel
theorem dX7_open_53 : decode cX7_open 53 = .ok (.invokestatic 54, 3) := by decide +kernel
theorem dX7_open_56 : decode cX7_open 56 = .ok (.invokevirtual 57, 3) := by decide +kernel
theorem dX7_open_59 : decode cX7_open 59 = .ok (.goto 57, 3) := by decide +kernel
theorem dX7_open_62 : decode cX7_open 62 = .ok (.iload 4, 2) := by decide +kernel
theorem dX7_open_64 : decode cX7_open 64 = .ok (.invokestatic 61, 3) := by decide +kernel
theorem dX7_open_67 : decode cX7_open 67 = .ok (.ifCond .eq 29, 3) := by decide +kernel
theorem dX7_open_70 : decode cX7_open 70 = .ok (.aload_n 1, 1) := by decide +kernel
theorem dX7_open_71 : decode cX7_open 71 = .ok (.iload_n 3, 1) := by decide +kernel
theorem dX7_open_72 : decode cX7_open 72 = .ok (.iload_n 2, 1) := by decide +kernel
theorem dX7_open_73 : decode cX7_open 73 = .ok (.invokestatic 64, 3) := by decide +kernel
theorem dX7_open_76 : decode cX7_open 76 = .ok (.istore 5, 2) := by decide +kernel
theorem dX7_open_78 : decode cX7_open 78 = .ok (.aload_n 0, 1) := by decide +kernel
theorem dX7_open_79 : decode cX7_open 79 = .ok (.getstatic 67, 3) := by decide +kernel
theorem dX7_open_82 : decode cX7_open 82 = .ok (.iload_n 3, 1) := by decide +kernel
theorem dX7_open_83 : decode cX7_open 83 = .ok (.aload_n 1, 1) := by decide +kernel
theorem dX7_open_84 : decode cX7_open 84 = .ok (.iload_n 3, 1) := by decide +kernel
theorem dX7_open_85 : decode cX7_open 85 = .ok (.iload 5, 2) := by decide +kernel
theorem dX7_open_87 : decode cX7_open 87 = .ok (.invokestatic 70, 3) := by decide +kernel
theorem dX7_open_90 : decode cX7_open 90 = .ok (.invokevirtual 57, 3) := by decide +kernel
theorem dX7_open_93 : decode cX7_open 93 = .ok (.goto 23, 3) := by decide +kernel
theorem dX7_open_96 : decode cX7_open 96 = .ok (.iload 4, 2) := by decide +kernel
theorem dX7_open_98 : decode cX7_open 98 = .ok (.bipush 32, 2) := by decide +kernel
theorem dX7_open_100 : decode cX7_open 100 = .ok (.if_icmp .eq 16, 3) := by decide +kernel
theorem dX7_open_103 : decode cX7_open 103 = .ok (.aload_n 0, 1) := by decide +kernel
theorem dX7_open_104 : decode cX7_open 104 = .ok (.aload_n 1, 1) := by decide +kernel
theorem dX7_open_105 : decode cX7_open 105 = .ok (.iload_n 3, 1) := by decide +kernel
theorem dX7_open_106 : decode cX7_open 106 = .ok (.iload 5, 2) := by decide +kernel
theorem dX7_open_108 : decode cX7_open 108 = .ok (.invokestatic 50, 3) := by decide +kernel
theorem dX7_open_111 : decode cX7_open 111 = .ok (.iload_n 3, 1) := by decide +kernel
theorem dX7_open_112 : decode cX7_open 112 = .ok (.iconst (-1), 1) := by decide +kernel
theorem dX7_open_113 : decode cX7_open 113 = .ok (.invokevirtual 57, 3) := by decide +kernel
theorem dX7_open_116 : decode cX7_open 116 = .ok (.iload 5, 2) := by decide +kernel
theorem dX7_open_118 : decode cX7_open 118 = .ok (.iload_n 3, 1) := by decide +kernel
theorem dX7_open_119 : decode cX7_open 119 = .ok (.iconst 1, 1) := by decide +kernel
theorem dX7_open_120 : decode cX7_open 120 = .ok (.iadd, 1) := by decide +kernel
theorem dX7_open_121 : decode cX7_open 121 = .ok (.invokestatic 73, 3) := by decide +kernel
theorem dX7_open_124 : decode cX7_open 124 = .ok (.istore_n 3, 1) := by decide +kernel
theorem dX7_open_125 : decode cX7_open 125 = .ok (.goto (-118), 3) := by decide +kernel
theorem dX7_open_128 : decode cX7_open 128 = .ok (.aload_n 0, 1) := by decide +kernel
theorem dX7_open_129 : decode cX7_open 129 = .ok (.getstatic 24, 3) := by decide +kernel
theorem dX7_open_132 : decode cX7_open 132 = .ok (.iload_n 2, 1) := by decide +kernel
theorem dX7_open_133 : decode cX7_open 133 = .ok (.iconst (-1), 1) := by decide +kernel
theorem dX7_open_134 : decode cX7_open 134 = .ok (.invokevirtual 57, 3) := by decide +kernel
theorem dX7_open_137 : decode cX7_open 137 = .ok (.aload_n 0, 1) := by decide +kernel
theorem dX7_open_138 : decode cX7_open 138 = .ok (.iconst (-1), 1) := by decide +kernel
theorem dX7_open_139 : decode cX7_open 139 = .ok (.putfield 31, 3) := by decide +kernel
theorem dX7_open_142 : decode cX7_open 142 = .ok (.aload_n 0, 1) := by decide +kernel
theorem dX7_open_143 : decode cX7_open 143 = .ok (.iconst (-1), 1) := by decide +kernel
theorem dX7_open_144 : decode cX7_open 144 = .ok (.putfield 79, 3) := by decide +kernel
theorem dX7_open_147 : decode cX7_open 147 = .ok (.aload_n 0, 1) := by decide +kernel
theorem dX7_open_148 : decode cX7_open 148 = .ok (.invokevirtual 82, 3) := by decide +kernel
theorem dX7_open_151 : decode cX7_open 151 = .ok (.return_, 1) := by decide +kernel
theorem dX7_add_0 : decode cX7_add 0 = .ok (.aload_n 0, 1) := by decide +kernel
theorem dX7_add_1 : decode cX7_add 1 = .ok (.getfield 35, 3) := by decide +kernel
theorem dX7_add_4 : decode cX7_add 4 = .ok (.ifCond .lt 59, 3) := by decide +kernel
theorem dX7_add_7 : decode cX7_add 7 = .ok (.aload_n 0, 1) := by decide +kernel
theorem dX7_add_8 : decode cX7_add 8 = .ok (.getfield 35, 3) := by decide +kernel
theorem dX7_add_11 : decode cX7_add 11 = .ok (.aload_n 0, 1) := by decide +kernel
theorem dX7_add_12 : decode cX7_add 12 = .ok (.getfield 11, 3) := by decide +kernel
theorem dX7_add_15 : decode cX7_add 15 = .ok (.arraylength, 1) := by decide +kernel
theorem dX7_add_16 : decode cX7_add 16 = .ok (.if_icmp .ge 47, 3) := by decide +kernel
theorem dX7_add_19 : decode cX7_add 19 = .ok (.aload_n 0, 1) := by decide +kernel
theorem dX7_add_20 : decode cX7_add 20 = .ok (.getfield 11, 3) := by decide +kernel
theorem dX7_add_23 : decode cX7_add 23 = .ok (.aload_n 0, 1) := by decide +kernel
theorem dX7_add_24 : decode cX7_add 24 = .ok (.getfield 35, 3) := by decide +kernel
theorem dX7_add_27 : decode cX7_add 27 = .ok (.aload_n 1, 1) := by decide +kernel
theorem dX7_add_28 : decode cX7_add 28 = .ok (.aastore, 1) := by decide +kernel
theorem dX7_add_29 : decode cX7_add 29 = .ok (.aload_n 0, 1) := by decide +kernel
theorem dX7_add_30 : decode cX7_add 30 = .ok (.getfield 17, 3) := by decide +kernel
theorem dX7_add_33 : decode cX7_add 33 = .ok (.aload_n 0, 1) := by decide +kernel
theorem dX7_add_34 : decode cX7_add 34 = .ok (.getfield 35, 3) := by decide +kernel
theorem dX7_add_37 : decode cX7_add 37 = .ok (.iload_n 2, 1) := by decide +kernel
theorem dX7_add_38 : decode cX7_add 38 = .ok (.invokestatic 85, 3) := by decide +kernel
theorem dX7_add_41 : decode cX7_add 41 = .ok (.aload_n 0, 1) := by decide +kernel
theorem dX7_add_42 : decode cX7_add 42 = .ok (.getfield 21, 3) := by decide +kernel
theorem dX7_add_45 : decode cX7_add 45 = .ok (.aload_n 0, 1) := by decide +kernel
theorem dX7_add_46 : decode cX7_add 46 = .ok (.getfield 35, 3) := by decide +kernel
theorem dX7_add_49 : decode cX7_add 49 = .ok (.iload_n 3, 1) := by decide +kernel
theorem dX7_add_50 : decode cX7_add 50 = .ok (.invokestatic 85, 3) := by decide +kernel
theorem dX7_add_53 : decode cX7_add 53 = .ok (.aload_n 0, 1) := by decide +kernel
theorem dX7_add_54 : decode cX7_add 54 = .ok (.dup, 1) := by decide +kernel
theorem dX7_add_55 : decode cX7_add 55 = .ok (.getfield 35, 3) := by decide +kernel
theorem dX7_add_58 : decode cX7_add 58 = .ok (.iconst 1, 1) := by decide +kernel
theorem dX7_add_59 : decode cX7_add 59 = .ok (.iadd, 1) := by decide +kernel
theorem dX7_add_60 : decode cX7_add 60 = .ok (.putfield 35, 3) := by decide +kernel
theorem dX7_add_63 : decode cX7_add 63 = .ok (.return_, 1) := by decide +kernel
theorem dX7_isLetter_0 : decode cX7_isLetter 0 = .ok (.iload_n 0, 1) := by decide +kernel
theorem dX7_isLetter_1 : decode cX7_isLetter 1 = .ok (.bipush 97, 2) := by decide +kernel
theorem dX7_isLetter_3 : decode cX7_isLetter 3 = .ok (.if_icmp .lt 13, 3) := by decide +kernel
theorem dX7_isLetter_6 : decode cX7_isLetter 6 = .ok (.iload_n 0, 1) := by decide +kernel
theorem dX7_isLetter_7 : decode cX7_isLetter 7 = .ok (.bipush 122, 2) := by decide +kernel
theorem dX7_isLetter_9 : decode cX7_isLetter 9 = .ok (.if_icmp .gt 7, 3) := by decide +kernel
theorem dX7_isLetter_12 : decode cX7_isLetter 12 = .ok (.iconst 1, 1) := by decide +kernel
theorem dX7_isLetter_13 : decode cX7_isLetter 13 = .ok (.goto 4, 3) := by decide +kernel
theorem dX7_isLetter_16 : decode cX7_isLetter 16 = .ok (.iconst 0, 1) := by decide +kernel
theorem dX7_isLetter_17 : decode cX7_isLetter 17 = .ok (.ireturn, 1) := by decide +kernel
theorem dX7_isDigit_0 : decode cX7_isDigit 0 = .ok (.iload_n 0, 1) := by decide +kernel
theorem dX7_isDigit_1 : decode cX7_isDigit 1 = .ok (.bipush 48, 2) := by decide +kernel
theorem dX7_isDigit_3 : decode cX7_isDigit 3 = .ok (.if_icmp .lt 13, 3) := by decide +kernel
theorem dX7_isDigit_6 : decode cX7_isDigit 6 = .ok (.iload_n 0, 1) := by decide +kernel
theorem dX7_isDigit_7 : decode cX7_isDigit 7 = .ok (.bipush 57, 2) := by decide +kernel
theorem dX7_isDigit_9 : decode cX7_isDigit 9 = .ok (.if_icmp .gt 7, 3) := by decide +kernel
theorem dX7_isDigit_12 : decode cX7_isDigit 12 = .ok (.iconst 1, 1) := by decide +kernel
theorem dX7_isDigit_13 : decode cX7_isDigit 13 = .ok (.goto 4, 3) := by decide +kernel
theorem dX7_isDigit_16 : decode cX7_isDigit 16 = .ok (.iconst 0, 1) := by decide +kernel
theorem dX7_isDigit_17 : decode cX7_isDigit 17 = .ok (.ireturn, 1) := by decide +kernel
theorem dX7_endOfLetters_0 : decode cX7_endOfLetters 0 = .ok (.iload_n 1, 1) := by decide +kernel
theorem dX7_endOfLetters_1 : decode cX7_endOfLetters 1 = .ok (.istore_n 3, 1) := by decide +kernel
theorem dX7_endOfLetters_2 : decode cX7_endOfLetters 2 = .ok (.iload_n 3, 1) := by decide +kernel
theorem dX7_endOfLetters_3 : decode cX7_endOfLetters 3 = .ok (.iload_n 2, 1) := by decide +kernel
theorem dX7_endOfLetters_4 : decode cX7_endOfLetters 4 = .ok (.if_icmp .ge 20, 3) := by decide +kernel
theorem dX7_endOfLetters_7 : decode cX7_endOfLetters 7 = .ok (.aload_n 0, 1) := by decide +kernel
theorem dX7_endOfLetters_8 : decode cX7_endOfLetters 8 = .ok (.iload_n 3, 1) := by decide +kernel
theorem dX7_endOfLetters_9 : decode cX7_endOfLetters 9 = .ok (.invokestatic 38, 3) := by decide +kernel
theorem dX7_endOfLetters_12 : decode cX7_endOfLetters 12 = .ok (.invokestatic 42, 3) := by decide +kernel
theorem dX7_endOfLetters_15 : decode cX7_endOfLetters 15 = .ok (.ifCond .eq 9, 3) := by decide +kernel
theorem dX7_endOfLetters_18 : decode cX7_endOfLetters 18 = .ok (.iinc 3 1, 3) := by decide +kernel
theorem dX7_endOfLetters_21 : decode cX7_endOfLetters 21 = .ok (.goto (-19), 3) := by decide +kernel
theorem dX7_endOfLetters_24 : decode cX7_endOfLetters 24 = .ok (.iload_n 3, 1) := by decide +kernel
theorem dX7_endOfLetters_25 : decode cX7_endOfLetters 25 = .ok (.ireturn, 1) := by decide +kernel
theorem dX7_endOfDigits_0 : decode cX7_endOfDigits 0 = .ok (.iload_n 1, 1) := by decide +kernel
theorem dX7_endOfDigits_1 : decode cX7_endOfDigits 1 = .ok (.istore_n 3, 1) := by decide +kernel
theorem dX7_endOfDigits_2 : decode cX7_endOfDigits 2 = .ok (.iload_n 3, 1) := by decide +kernel
theorem dX7_endOfDigits_3 : decode cX7_endOfDigits 3 = .ok (.iload_n 2, 1) := by decide +kernel
theorem dX7_endOfDigits_4 : decode cX7_endOfDigits 4 = .ok (.if_icmp .ge 20, 3) := by decide +kernel
theorem dX7_endOfDigits_7 : decode cX7_endOfDigits 7 = .ok (.aload_n 0, 1) := by decide +kernel
theorem dX7_endOfDigits_8 : decode cX7_endOfDigits 8 = .ok (.iload_n 3, 1) := by decide +kernel
theorem dX7_endOfDigits_9 : decode cX7_endOfDigits 9 = .ok (.invokestatic 38, 3) := by decide +kernel
theorem dX7_endOfDigits_12 : decode cX7_endOfDigits 12 = .ok (.invokestatic 61, 3) := by decide +kernel
theorem dX7_endOfDigits_15 : decode cX7_endOfDigits 15 = .ok (.ifCond .eq 9, 3) := by decide +kernel
theorem dX7_endOfDigits_18 : decode cX7_endOfDigits 18 = .ok (.iinc 3 1, 3) := by decide +kernel
theorem dX7_endOfDigits_21 : decode cX7_endOfDigits 21 = .ok (.goto (-19), 3) := by decide +kernel
theorem dX7_endOfDigits_24 : decode cX7_endOfDigits 24 = .ok (.iload_n 3, 1) := by decide +kernel
theorem dX7_endOfDigits_25 : decode cX7_endOfDigits 25 = .ok (.ireturn, 1) := by decide +kernel
theorem dX7_spelled_0 : decode cX7_spelled 0 = .ok (.iconst 0, 1) := by decide +kernel
theorem dX7_spelled_1 : decode cX7_spelled 1 = .ok (.istore_n 3, 1) := by decide +kernel
theorem dX7_spelled_2 : decode cX7_spelled 2 = .ok (.iload_n 3, 1) := by decide +kernel
theorem dX7_spelled_3 : decode cX7_spelled 3 = .ok (.getstatic 89, 3) := by decide +kernel
theorem dX7_spelled_6 : decode cX7_spelled 6 = .ok (.arraylength, 1) := by decide +kernel
theorem dX7_spelled_7 : decode cX7_spelled 7 = .ok (.if_icmp .ge 32, 3) := by decide +kernel
theorem dX7_spelled_10 : decode cX7_spelled 10 = .ok (.getstatic 89, 3) := by decide +kernel
theorem dX7_spelled_13 : decode cX7_spelled 13 = .ok (.iload_n 3, 1) := by decide +kernel
theorem dX7_spelled_14 : decode cX7_spelled 14 = .ok (.aaload, 1) := by decide +kernel
theorem dX7_spelled_15 : decode cX7_spelled 15 = .ok (.getfield 92, 3) := by decide +kernel
theorem dX7_spelled_18 : decode cX7_spelled 18 = .ok (.aload_n 0, 1) := by decide +kernel
theorem dX7_spelled_19 : decode cX7_spelled 19 = .ok (.iload_n 1, 1) := by decide +kernel
theorem dX7_spelled_20 : decode cX7_spelled 20 = .ok (.iload_n 2, 1) := by decide +kernel
theorem dX7_spelled_21 : decode cX7_spelled 21 = .ok (.invokestatic 96, 3) := by decide +kernel
theorem dX7_spelled_24 : decode cX7_spelled 24 = .ok (.ifCond .eq 9, 3) := by decide +kernel
theorem dX7_spelled_27 : decode cX7_spelled 27 = .ok (.getstatic 89, 3) := by decide +kernel
theorem dX7_spelled_30 : decode cX7_spelled 30 = .ok (.iload_n 3, 1) := by decide +kernel
theorem dX7_spelled_31 : decode cX7_spelled 31 = .ok (.aaload, 1) := by decide +kernel
theorem dX7_spelled_32 : decode cX7_spelled 32 = .ok (.areturn, 1) := by decide +kernel
theorem dX7_spelled_33 : decode cX7_spelled 33 = .ok (.iinc 3 1, 3) := by decide +kernel
theorem dX7_spelled_36 : decode cX7_spelled 36 = .ok (.goto (-34), 3) := by decide +kernel
theorem dX7_spelled_39 : decode cX7_spelled 39 = .ok (.getstatic 100, 3) := by decide +kernel
theorem dX7_spelled_42 : decode cX7_spelled 42 = .ok (.areturn, 1) := by decide +kernel
theorem dX7_isSpelled_0 : decode cX7_isSpelled 0 = .ok (.aload_n 0, 1) := by decide +kernel
theorem dX7_isSpelled_1 : decode cX7_isSpelled 1 = .ok (.invokevirtual 103, 3) := by decide +kernel
theorem dX7_isSpelled_4 : decode cX7_isSpelled 4 = .ok (.iload_n 3, 1) := by decide +kernel
theorem dX7_isSpelled_5 : decode cX7_isSpelled 5 = .ok (.iload_n 2, 1) := by decide +kernel
theorem dX7_isSpelled_6 : decode cX7_isSpelled 6 = .ok (.isub, 1) := by decide +kernel
theorem dX7_isSpelled_7 : decode cX7_isSpelled 7 = .ok (.if_icmp .eq 5, 3) := by decide +kernel
theorem dX7_isSpelled_10 : decode cX7_isSpelled 10 = .ok (.iconst 0, 1) := by decide +kernel
theorem dX7_isSpelled_11 : decode cX7_isSpelled 11 = .ok (.ireturn, 1) := by decide +kernel
theorem dX7_isSpelled_12 : decode cX7_isSpelled 12 = .ok (.iconst 0, 1) := by decide +kernel
theorem dX7_isSpelled_13 : decode cX7_isSpelled 13 = .ok (.istore 4, 2) := by decide +kernel
theorem dX7_isSpelled_15 : decode cX7_isSpelled 15 = .ok (.iload 4, 2) := by decide +kernel
theorem dX7_isSpelled_17 : decode cX7_isSpelled 17 = .ok (.aload_n 0, 1) := by decide +kernel
theorem dX7_isSpelled_18 : decode cX7_isSpelled 18 = .ok (.invokevirtual 103, 3) := by decide +kernel
theorem dX7_isSpelled_21 : decode cX7_isSpelled 21 = .ok (.if_icmp .ge 28, 3) := by decide +kernel
theorem dX7_isSpelled_24 : decode cX7_isSpelled 24 = .ok (.aload_n 0, 1) := by decide +kernel
theorem dX7_isSpelled_25 : decode cX7_isSpelled 25 = .ok (.iload 4, 2) := by decide +kernel
theorem dX7_isSpelled_27 : decode cX7_isSpelled 27 = .ok (.invokevirtual 109, 3) := by decide +kernel
theorem dX7_isSpelled_30 : decode cX7_isSpelled 30 = .ok (.aload_n 1, 1) := by decide +kernel
theorem dX7_isSpelled_31 : decode cX7_isSpelled 31 = .ok (.iload_n 2, 1) := by decide +kernel
theorem dX7_isSpelled_32 : decode cX7_isSpelled 32 = .ok (.iload 4, 2) := by decide +kernel
theorem dX7_isSpelled_34 : decode cX7_isSpelled 34 = .ok (.iadd, 1) := by decide +kernel
theorem dX7_isSpelled_35 : decode cX7_isSpelled 35 = .ok (.invokestatic 38, 3) := by decide +kernel
theorem dX7_isSpelled_38 : decode cX7_isSpelled 38 = .ok (.if_icmp .eq 5, 3) := by decide +kernel
theorem dX7_isSpelled_41 : decode cX7_isSpelled 41 = .ok (.iconst 0, 1) := by decide +kernel
theorem dX7_isSpelled_42 : decode cX7_isSpelled 42 = .ok (.ireturn, 1) := by decide +kernel
theorem dX7_isSpelled_43 : decode cX7_isSpelled 43 = .ok (.iinc 4 1, 3) := by decide +kernel
theorem dX7_isSpelled_46 : decode cX7_isSpelled 46 = .ok (.goto (-31), 3) := by decide +kernel
theorem dX7_isSpelled_49 : decode cX7_isSpelled 49 = .ok (.iconst 1, 1) := by decide +kernel
theorem dX7_isSpelled_50 : decode cX7_isSpelled 50 = .ok (.ireturn, 1) := by decide +kernel
theorem dX7_marksOf_0 : decode cX7_marksOf 0 = .ok (.iconst 0, 1) := by decide +kernel
theorem dX7_marksOf_1 : decode cX7_marksOf 1 = .ok (.istore_n 3, 1) := by decide +kernel
theorem dX7_marksOf_2 : decode cX7_marksOf 2 = .ok (.iload_n 1, 1) := by decide +kernel
theorem dX7_marksOf_3 : decode cX7_marksOf 3 = .ok (.istore 4, 2) := by decide +kernel
theorem dX7_marksOf_5 : decode cX7_marksOf 5 = .ok (.iload 4, 2) := by decide +kernel
theorem dX7_marksOf_7 : decode cX7_marksOf 7 = .ok (.iload_n 2, 1) := by decide +kernel
theorem dX7_marksOf_8 : decode cX7_marksOf 8 = .ok (.if_icmp .ge 46, 3) := by decide +kernel
theorem dX7_marksOf_11 : decode cX7_marksOf 11 = .ok (.aload_n 0, 1) := by decide +kernel
theorem dX7_marksOf_12 : decode cX7_marksOf 12 = .ok (.iload 4, 2) := by decide +kernel
theorem dX7_marksOf_14 : decode cX7_marksOf 14 = .ok (.invokestatic 38, 3) := by decide +kernel
theorem dX7_marksOf_17 : decode cX7_marksOf 17 = .ok (.bipush 97, 2) := by decide +kernel
theorem dX7_marksOf_19 : decode cX7_marksOf 19 = .ok (.isub, 1) := by decide +kernel
theorem dX7_marksOf_20 : decode cX7_marksOf 20 = .ok (.istore 5, 2) := by decide +kernel
theorem dX7_marksOf_22 : decode cX7_marksOf 22 = .ok (.iload 5, 2) := by decide +kernel
theorem dX7_marksOf_24 : decode cX7_marksOf 24 = .ok (.bipush 6, 2) := by decide +kernel
theorem dX7_marksOf_26 : decode cX7_marksOf 26 = .ok (.if_icmp .ge 13, 3) := by decide +kernel
theorem dX7_marksOf_29 : decode cX7_marksOf 29 = .ok (.iload_n 3, 1) := by decide +kernel
theorem dX7_marksOf_30 : decode cX7_marksOf 30 = .ok (.iload 5, 2) := by decide +kernel
theorem dX7_marksOf_32 : decode cX7_marksOf 32 = .ok (.ishr, 1) := by decide +kernel
theorem dX7_marksOf_33 : decode cX7_marksOf 33 = .ok (.iconst 1, 1) := by decide +kernel
theorem dX7_marksOf_34 : decode cX7_marksOf 34 = .ok (.iand, 1) := by decide +kernel
theorem dX7_marksOf_35 : decode cX7_marksOf 35 = .ok (.iconst 1, 1) := by decide +kernel
theorem dX7_marksOf_36 : decode cX7_marksOf 36 = .ok (.if_icmp .ne 5, 3) := by decide +kernel
theorem dX7_marksOf_39 : decode cX7_marksOf 39 = .ok (.iconst (-1), 1) := by decide +kernel
theorem dX7_marksOf_40 : decode cX7_marksOf 40 = .ok (.ireturn, 1) := by decide +kernel
theorem dX7_marksOf_41 : decode cX7_marksOf 41 = .ok (.iload_n 3, 1) := by decide +kernel
theorem dX7_marksOf_42 : decode cX7_marksOf 42 = .ok (.iconst 1, 1) := by decide +kernel
theorem dX7_marksOf_43 : decode cX7_marksOf 43 = .ok (.iload 5, 2) := by decide +kernel
theorem dX7_marksOf_45 : decode cX7_marksOf 45 = .ok (.ishl, 1) := by decide +kernel
theorem dX7_marksOf_46 : decode cX7_marksOf 46 = .ok (.ior, 1) := by decide +kernel
theorem dX7_marksOf_47 : decode cX7_marksOf 47 = .ok (.istore_n 3, 1) := by decide +kernel
theorem dX7_marksOf_48 : decode cX7_marksOf 48 = .ok (.iinc 4 1, 3) := by decide +kernel
theorem dX7_marksOf_51 : decode cX7_marksOf 51 = .ok (.goto (-46), 3) := by decide +kernel
theorem dX7_marksOf_54 : decode cX7_marksOf 54 = .ok (.iload_n 3, 1) := by decide +kernel
theorem dX7_marksOf_55 : decode cX7_marksOf 55 = .ok (.ireturn, 1) := by decide +kernel
theorem dX7_numberOf_0 : decode cX7_numberOf 0 = .ok (.iload_n 2, 1) := by decide +kernel
theorem dX7_numberOf_1 : decode cX7_numberOf 1 = .ok (.iload_n 1, 1) := by decide +kernel
theorem dX7_numberOf_2 : decode cX7_numberOf 2 = .ok (.isub, 1) := by decide +kernel
theorem dX7_numberOf_3 : decode cX7_numberOf 3 = .ok (.iconst 3, 1) := by decide +kernel
theorem dX7_numberOf_4 : decode cX7_numberOf 4 = .ok (.if_icmp .le 7, 3) := by decide +kernel
theorem dX7_numberOf_7 : decode cX7_numberOf 7 = .ok (.sipush 1000, 3) := by decide +kernel
theorem dX7_numberOf_10 : decode cX7_numberOf 10 = .ok (.ireturn, 1) := by decide +kernel
theorem dX7_numberOf_11 : decode cX7_numberOf 11 = .ok (.iconst 0, 1) := by decide +kernel
theorem dX7_numberOf_12 : decode cX7_numberOf 12 = .ok (.istore_n 3, 1) := by decide +kernel
theorem dX7_numberOf_13 : decode cX7_numberOf 13 = .ok (.iload_n 1, 1) := by decide +kernel
theorem dX7_numberOf_14 : decode cX7_numberOf 14 = .ok (.istore 4, 2) := by decide +kernel
theorem dX7_numberOf_16 : decode cX7_numberOf 16 = .ok (.iload 4, 2) := by decide +kernel
theorem dX7_numberOf_18 : decode cX7_numberOf 18 = .ok (.iload_n 2, 1) := by decide +kernel
theorem dX7_numberOf_19 : decode cX7_numberOf 19 = .ok (.if_icmp .ge 24, 3) := by decide +kernel
theorem dX7_numberOf_22 : decode cX7_numberOf 22 = .ok (.iload_n 3, 1) := by decide +kernel
theorem dX7_numberOf_23 : decode cX7_numberOf 23 = .ok (.bipush 10, 2) := by decide +kernel
theorem dX7_numberOf_25 : decode cX7_numberOf 25 = .ok (.imul, 1) := by decide +kernel
theorem dX7_numberOf_26 : decode cX7_numberOf 26 = .ok (.aload_n 0, 1) := by decide +kernel
theorem dX7_numberOf_27 : decode cX7_numberOf 27 = .ok (.iload 4, 2) := by decide +kernel
theorem dX7_numberOf_29 : decode cX7_numberOf 29 = .ok (.invokestatic 38, 3) := by decide +kernel
theorem dX7_numberOf_32 : decode cX7_numberOf 32 = .ok (.iadd, 1) := by decide +kernel
theorem dX7_numberOf_33 : decode cX7_numberOf 33 = .ok (.bipush 48, 2) := by decide +kernel
theorem dX7_numberOf_35 : decode cX7_numberOf 35 = .ok (.isub, 1) := by decide +kernel
theorem dX7_numberOf_36 : decode cX7_numberOf 36 = .ok (.istore_n 3, 1) := by decide +kernel
theorem dX7_numberOf_37 : decode cX7_numberOf 37 = .ok (.iinc 4 1, 3) := by decide +kernel
theorem dX7_numberOf_40 : decode cX7_numberOf 40 = .ok (.goto (-24), 3) := by decide +kernel
theorem dX7_numberOf_43 : decode cX7_numberOf 43 = .ok (.iload_n 3, 1) := by decide +kernel
theorem dX7_numberOf_44 : decode cX7_numberOf 44 = .ok (.ireturn, 1) := by decide +kernel
theorem dX7_next_0 : decode cX7_next 0 = .ok (.aload_n 0, 1) := by decide +kernel
theorem dX7_next_1 : decode cX7_next 1 = .ok (.getfield 79, 3) := by decide +kernel
theorem dX7_next_4 : decode cX7_next 4 = .ok (.aload_n 0, 1) := by decide +kernel
theorem dX7_next_5 : decode cX7_next 5 = .ok (.getfield 35, 3) := by decide +kernel
theorem dX7_next_8 : decode cX7_next 8 = .ok (.iconst 1, 1) := by decide +kernel
theorem dX7_next_9 : decode cX7_next 9 = .ok (.isub, 1) := by decide +kernel
theorem dX7_next_10 : decode cX7_next 10 = .ok (.if_icmp .ge 13, 3) := by decide +kernel
theorem dX7_next_13 : decode cX7_next 13 = .ok (.aload_n 0, 1) := by decide +kernel
theorem dX7_next_14 : decode cX7_next 14 = .ok (.dup, 1) := by decide +kernel
theorem dX7_next_15 : decode cX7_next 15 = .ok (.getfield 79, 3) := by decide +kernel
theorem dX7_next_18 : decode cX7_next 18 = .ok (.iconst 1, 1) := by decide +kernel
theorem dX7_next_19 : decode cX7_next 19 = .ok (.iadd, 1) := by decide +kernel
theorem dX7_next_20 : decode cX7_next 20 = .ok (.putfield 79, 3) := by decide +kernel
theorem dX7_next_23 : decode cX7_next 23 = .ok (.aload_n 0, 1) := by decide +kernel
theorem dX7_next_24 : decode cX7_next 24 = .ok (.getfield 79, 3) := by decide +kernel
theorem dX7_next_27 : decode cX7_next 27 = .ok (.ifCond .lt 66, 3) := by decide +kernel
theorem dX7_next_30 : decode cX7_next 30 = .ok (.aload_n 0, 1) := by decide +kernel
theorem dX7_next_31 : decode cX7_next 31 = .ok (.getfield 79, 3) := by decide +kernel
theorem dX7_next_34 : decode cX7_next 34 = .ok (.aload_n 0, 1) := by decide +kernel
theorem dX7_next_35 : decode cX7_next 35 = .ok (.getfield 11, 3) := by decide +kernel
theorem dX7_next_38 : decode cX7_next 38 = .ok (.arraylength, 1) := by decide +kernel
theorem dX7_next_39 : decode cX7_next 39 = .ok (.if_icmp .ge 54, 3) := by decide +kernel
theorem dX7_next_42 : decode cX7_next 42 = .ok (.aload_n 0, 1) := by decide +kernel
theorem dX7_next_43 : decode cX7_next 43 = .ok (.getfield 11, 3) := by decide +kernel
theorem dX7_next_46 : decode cX7_next 46 = .ok (.aload_n 0, 1) := by decide +kernel
theorem dX7_next_47 : decode cX7_next 47 = .ok (.getfield 79, 3) := by decide +kernel
theorem dX7_next_50 : decode cX7_next 50 = .ok (.aaload, 1) := by decide +kernel
theorem dX7_next_51 : decode cX7_next 51 = .ok (.ifnull 42, 3) := by decide +kernel
theorem dX7_next_54 : decode cX7_next 54 = .ok (.aload_n 0, 1) := by decide +kernel
theorem dX7_next_55 : decode cX7_next 55 = .ok (.aload_n 0, 1) := by decide +kernel
theorem dX7_next_56 : decode cX7_next 56 = .ok (.getfield 11, 3) := by decide +kernel
theorem dX7_next_59 : decode cX7_next 59 = .ok (.aload_n 0, 1) := by decide +kernel
theorem dX7_next_60 : decode cX7_next 60 = .ok (.getfield 79, 3) := by decide +kernel
theorem dX7_next_63 : decode cX7_next 63 = .ok (.aaload, 1) := by decide +kernel
theorem dX7_next_64 : decode cX7_next 64 = .ok (.putfield 28, 3) := by decide +kernel
theorem dX7_next_67 : decode cX7_next 67 = .ok (.aload_n 0, 1) := by decide +kernel
theorem dX7_next_68 : decode cX7_next 68 = .ok (.aload_n 0, 1) := by decide +kernel
theorem dX7_next_69 : decode cX7_next 69 = .ok (.getfield 17, 3) := by decide +kernel
theorem dX7_next_72 : decode cX7_next 72 = .ok (.aload_n 0, 1) := by decide +kernel
theorem dX7_next_73 : decode cX7_next 73 = .ok (.getfield 79, 3) := by decide +kernel
theorem dX7_next_76 : decode cX7_next 76 = .ok (.iaload, 1) := by decide +kernel
theorem dX7_next_77 : decode cX7_next 77 = .ok (.putfield 113, 3) := by decide +kernel
theorem dX7_next_80 : decode cX7_next 80 = .ok (.aload_n 0, 1) := by decide +kernel
theorem dX7_next_81 : decode cX7_next 81 = .ok (.aload_n 0, 1) := by decide +kernel
theorem dX7_next_82 : decode cX7_next 82 = .ok (.getfield 21, 3) := by decide +kernel
theorem dX7_next_85 : decode cX7_next 85 = .ok (.aload_n 0, 1) := by decide +kernel
theorem dX7_next_86 : decode cX7_next 86 = .ok (.getfield 79, 3) := by decide +kernel
theorem dX7_next_89 : decode cX7_next 89 = .ok (.iaload, 1) := by decide +kernel
theorem dX7_next_90 : decode cX7_next 90 = .ok (.putfield 116, 3) := by decide +kernel
theorem dX7_next_93 : decode cX7_next 93 = .ok (.return_, 1) := by decide +kernel
theorem dX7_refuse_0 : decode cX7_refuse 0 = .ok (.aload_n 0, 1) := by decide +kernel
theorem dX7_refuse_1 : decode cX7_refuse 1 = .ok (.aload_n 0, 1) := by decide +kernel
theorem dX7_refuse_2 : decode cX7_refuse 2 = .ok (.getfield 113, 3) := by decide +kernel
theorem dX7_refuse_5 : decode cX7_refuse 5 = .ok (.putfield 31, 3) := by decide +kernel
theorem dX7_refuse_8 : decode cX7_refuse 8 = .ok (.iconst 0, 1) := by decide +kernel
theorem dX7_refuse_9 : decode cX7_refuse 9 = .ok (.ireturn, 1) := by decide +kernel
theorem dX7_skip_0 : decode cX7_skip 0 = .ok (.aload_n 0, 1) := by decide +kernel
theorem dX7_skip_1 : decode cX7_skip 1 = .ok (.getfield 28, 3) := by decide +kernel
theorem dX7_skip_4 : decode cX7_skip 4 = .ok (.aload_n 1, 1) := by decide +kernel
theorem dX7_skip_5 : decode cX7_skip 5 = .ok (.if_acmp .ne 7, 3) := by decide +kernel
theorem dX7_skip_8 : decode cX7_skip 8 = .ok (.iconst 1, 1) := by decide +kernel
theorem dX7_skip_9 : decode cX7_skip 9 = .ok (.goto 4, 3) := by decide +kernel
theorem dX7_skip_12 : decode cX7_skip 12 = .ok (.iconst 0, 1) := by decide +kernel
theorem dX7_skip_13 : decode cX7_skip 13 = .ok (.istore_n 2, 1) := by decide +kernel
theorem dX7_skip_14 : decode cX7_skip 14 = .ok (.iload_n 2, 1) := by decide +kernel
theorem dX7_skip_15 : decode cX7_skip 15 = .ok (.ifCond .eq 7, 3) := by decide +kernel
theorem dX7_skip_18 : decode cX7_skip 18 = .ok (.aload_n 0, 1) := by decide +kernel
theorem dX7_skip_19 : decode cX7_skip 19 = .ok (.invokevirtual 82, 3) := by decide +kernel
theorem dX7_skip_22 : decode cX7_skip 22 = .ok (.iload_n 2, 1) := by decide +kernel
theorem dX7_skip_23 : decode cX7_skip 23 = .ok (.ireturn, 1) := by decide +kernel
theorem dX7_numberWithin_0 : decode cX7_numberWithin 0 = .ok (.aload_n 0, 1) := by decide +kernel
theorem dX7_numberWithin_1 : decode cX7_numberWithin 1 = .ok (.getfield 28, 3) := by decide +kernel
theorem dX7_numberWithin_4 : decode cX7_numberWithin 4 = .ok (.getstatic 67, 3) := by decide +kernel
theorem dX7_numberWithin_7 : decode cX7_numberWithin 7 = .ok (.if_acmp .ne 26, 3) := by decide +kernel
theorem dX7_numberWithin_10 : decode cX7_numberWithin 10 = .ok (.aload_n 0, 1) := by decide +kernel
theorem dX7_numberWithin_11 : decode cX7_numberWithin 11 = .ok (.getfield 116, 3) := by decide +kernel
theorem dX7_numberWithin_14 : decode cX7_numberWithin 14 = .ok (.iload_n 1, 1) := by decide +kernel
theorem dX7_numberWithin_15 : decode cX7_numberWithin 15 = .ok (.if_icmp .lt 18, 3) := by decide +kernel
theorem dX7_numberWithin_18 : decode cX7_numberWithin 18 = .ok (.aload_n 0, 1) := by decide +kernel
theorem dX7_numberWithin_19 : decode cX7_numberWithin 19 = .ok (.getfield 116, 3) := by decide +kernel
theorem dX7_numberWithin_22 : decode cX7_numberWithin 22 = .ok (.iload_n 2, 1) := by decide +kernel
theorem dX7_numberWithin_23 : decode cX7_numberWithin 23 = .ok (.if_icmp .gt 10, 3) := by decide +kernel
theorem dX7_numberWithin_26 : decode cX7_numberWithin 26 = .ok (.aload_n 0, 1) := by decide +kernel
theorem dX7_numberWithin_27 : decode cX7_numberWithin 27 = .ok (.getfield 116, 3) := by decide +kernel
theorem dX7_numberWithin_30 : decode cX7_numberWithin 30 = .ok (.goto 4, 3) := by decide +kernel
theorem dX7_numberWithin_33 : decode cX7_numberWithin 33 = .ok (.iconst (-1), 1) := by decide +kernel
theorem dX7_numberWithin_34 : decode cX7_numberWithin 34 = .ok (.ireturn, 1) := by decide +kernel
theorem dX7_marksHere_0 : decode cX7_marksHere 0 = .ok (.aload_n 0, 1) := by decide +kernel
theorem dX7_marksHere_1 : decode cX7_marksHere 1 = .ok (.getfield 28, 3) := by decide +kernel
theorem dX7_marksHere_4 : decode cX7_marksHere 4 = .ok (.getstatic 100, 3) := by decide +kernel
theorem dX7_marksHere_7 : decode cX7_marksHere 7 = .ok (.if_acmp .ne 10, 3) := by decide +kernel
theorem dX7_marksHere_10 : decode cX7_marksHere 10 = .ok (.aload_n 0, 1) := by decide +kernel
theorem dX7_marksHere_11 : decode cX7_marksHere 11 = .ok (.getfield 116, 3) := by decide +kernel
theorem dX7_marksHere_14 : decode cX7_marksHere 14 = .ok (.goto 4, 3) := by decide +kernel
theorem dX7_marksHere_17 : decode cX7_marksHere 17 = .ok (.iconst (-1), 1) := by decide +kernel
theorem dX7_marksHere_18 : decode cX7_marksHere 18 = .ok (.ireturn, 1) := by decide +kernel
theorem dX9_init_0 : decode cX9_init 0 = .ok (.aload_n 0, 1) := by decide +kernel
theorem dX9_init_1 : decode cX9_init 1 = .ok (.invokespecial 1, 3) := by decide +kernel
theorem dX9_init_4 : decode cX9_init 4 = .ok (.aload_n 0, 1) := by decide +kernel
theorem dX9_init_5 : decode cX9_init 5 = .ok (.sipush 400, 3) := by decide +kernel
theorem dX9_init_8 : decode cX9_init 8 = .ok (.newarray .int, 2) := by decide +kernel
theorem dX9_init_10 : decode cX9_init 10 = .ok (.putfield 9, 3) := by decide +kernel
theorem dX9_init_13 : decode cX9_init 13 = .ok (.aload_n 0, 1) := by decide +kernel
theorem dX9_init_14 : decode cX9_init 14 = .ok (.iconst (-1), 1) := by decide +kernel
theorem dX9_init_15 : decode cX9_init 15 = .ok (.putfield 13, 3) := by decide +kernel
theorem dX9_init_18 : decode cX9_init 18 = .ok (.aload_n 0, 1) := by decide +kernel
theorem dX9_init_19 : decode cX9_init 19 = .ok (.new 17, 3) := by decide +kernel
theorem dX9_init_22 : decode cX9_init 22 = .ok (.dup, 1) := by decide +kernel
theorem dX9_init_23 : decode cX9_init 23 = .ok (.invokespecial 19, 3) := by decide +kernel
theorem dX9_init_26 : decode cX9_init 26 = .ok (.putfield 20, 3) := by decide +kernel
theorem dX9_init_29 : decode cX9_init 29 = .ok (.aload_n 0, 1) := by decide +kernel
theorem dX9_init_30 : decode cX9_init 30 = .ok (.new 17, 3) := by decide +kernel
theorem dX9_init_33 : decode cX9_init 33 = .ok (.dup, 1) := by decide +kernel
theorem dX9_init_34 : decode cX9_init 34 = .ok (.invokespecial 19, 3) := by decide +kernel
theorem dX9_init_37 : decode cX9_init 37 = .ok (.putfield 24, 3) := by decide +kernel
theorem dX9_init_40 : decode cX9_init 40 = .ok (.aload_n 0, 1) := by decide +kernel
theorem dX9_init_41 : decode cX9_init 41 = .ok (.new 27, 3) := by decide +kernel
theorem dX9_init_44 : decode cX9_init 44 = .ok (.dup, 1) := by decide +kernel
theorem dX9_init_45 : decode cX9_init 45 = .ok (.invokespecial 29, 3) := by decide +kernel
theorem dX9_init_48 : decode cX9_init 48 = .ok (.putfield 30, 3) := by decide +kernel
theorem dX9_init_51 : decode cX9_init 51 = .ok (.aload_n 0, 1) := by decide +kernel
theorem dX9_init_52 : decode cX9_init 52 = .ok (.new 27, 3) := by decide +kernel
theorem dX9_init_55 : decode cX9_init 55 = .ok (.dup, 1) := by decide +kernel
theorem dX9_init_56 : decode cX9_init 56 = .ok (.invokespecial 29, 3) := by decide +kernel
theorem dX9_init_59 : decode cX9_init 59 = .ok (.putfield 34, 3) := by decide +kernel
theorem dX9_init_62 : decode cX9_init 62 = .ok (.aload_n 0, 1) := by decide +kernel
theorem dX9_init_63 : decode cX9_init 63 = .ok (.new 17, 3) := by decide +kernel
theorem dX9_init_66 : decode cX9_init 66 = .ok (.dup, 1) := by decide +kernel
theorem dX9_init_67 : decode cX9_init 67 = .ok (.invokespecial 19, 3) := by decide +kernel
theorem dX9_init_70 : decode cX9_init 70 = .ok (.putfield 37, 3) := by decide +kernel
theorem dX9_init_73 : decode cX9_init 73 = .ok (.aload_n 0, 1) := by decide +kernel
theorem dX9_init_74 : decode cX9_init 74 = .ok (.new 27, 3) := by decide +kernel
theorem dX9_init_77 : decode cX9_init 77 = .ok (.dup, 1) := by decide +kernel
theorem dX9_init_78 : decode cX9_init 78 = .ok (.invokespecial 29, 3) := by decide +kernel
theorem dX9_init_81 : decode cX9_init 81 = .ok (.putfield 40, 3) := by decide +kernel
theorem dX9_init_84 : decode cX9_init 84 = .ok (.aload_n 0, 1) := by decide +kernel
theorem dX9_init_85 : decode cX9_init 85 = .ok (.bipush 12, 2) := by decide +kernel
theorem dX9_init_87 : decode cX9_init 87 = .ok (.anewarray 17, 3) := by decide +kernel
theorem dX9_init_90 : decode cX9_init 90 = .ok (.putfield 43, 3) := by decide +kernel
theorem dX9_init_93 : decode cX9_init 93 = .ok (.aload_n 0, 1) := by decide +kernel
theorem dX9_init_94 : decode cX9_init 94 = .ok (.new 47, 3) := by decide +kernel
theorem dX9_init_97 : decode cX9_init 97 = .ok (.dup, 1) := by decide +kernel
theorem dX9_init_98 : decode cX9_init 98 = .ok (.invokespecial 49, 3) := by decide +kernel
theorem dX9_init_101 : decode cX9_init 101 = .ok (.putfield 50, 3) := by decide +kernel
theorem dX9_init_104 : decode cX9_init 104 = .ok (.aload_n 0, 1) := by decide +kernel
theorem dX9_init_105 : decode cX9_init 105 = .ok (.new 54, 3) := by decide +kernel
theorem dX9_init_108 : decode cX9_init 108 = .ok (.dup, 1) := by decide +kernel
theorem dX9_init_109 : decode cX9_init 109 = .ok (.invokespecial 56, 3) := by decide +kernel
theorem dX9_init_112 : decode cX9_init 112 = .ok (.putfield 57, 3) := by decide +kernel
theorem dX9_init_115 : decode cX9_init 115 = .ok (.aload_n 0, 1) := by decide +kernel
theorem dX9_init_116 : decode cX9_init 116 = .ok (.new 61, 3) := by decide +kernel
theorem dX9_init_119 : decode cX9_init 119 = .ok (.dup, 1) := by decide +kernel
theorem dX9_init_120 : decode cX9_init 120 = .ok (.invokespecial 63, 3) := by decide +kernel
theorem dX9_init_123 : decode cX9_init 123 = .ok (.putfield 64, 3) := by decide +kernel
theorem dX9_init_126 : decode cX9_init 126 = .ok (.aload_n 0, 1) := by decide +kernel
theorem dX9_init_127 : decode cX9_init 127 = .ok (.new 68, 3) := by decide +kernel
theorem dX9_init_130 : decode cX9_init 130 = .ok (.dup, 1) := by decide +kernel
theorem dX9_init_131 : decode cX9_init 131 = .ok (.invokespecial 70, 3) := by decide +kernel
theorem dX9_init_134 : decode cX9_init 134 = .ok (.putfield 71, 3) := by decide +kernel
theorem dX9_init_137 : decode cX9_init 137 = .ok (.aload_n 0, 1) := by decide +kernel
theorem dX9_init_138 : decode cX9_init 138 = .ok (.new 75, 3) := by decide +kernel
theorem dX9_init_141 : decode cX9_init 141 = .ok (.dup, 1) := by decide +kernel
theorem dX9_init_142 : decode cX9_init 142 = .ok (.invokespecial 77, 3) := by decide +kernel
theorem dX9_init_145 : decode cX9_init 145 = .ok (.putfield 78, 3) := by decide +kernel
theorem dX9_init_148 : decode cX9_init 148 = .ok (.iconst 0, 1) := by decide +kernel
theorem dX9_init_149 : decode cX9_init 149 = .ok (.istore_n 1, 1) := by decide +kernel
theorem dX9_init_150 : decode cX9_init 150 = .ok (.iload_n 1, 1) := by decide +kernel
theorem dX9_init_151 : decode cX9_init 151 = .ok (.aload_n 0, 1) := by decide +kernel
theorem dX9_init_152 : decode cX9_init 152 = .ok (.getfield 43, 3) := by decide +kernel
theorem dX9_init_155 : decode cX9_init 155 = .ok (.arraylength, 1) := by decide +kernel
theorem dX9_init_156 : decode cX9_init 156 = .ok (.if_icmp .ge 22, 3) := by decide +kernel
theorem dX9_init_159 : decode cX9_init 159 = .ok (.aload_n 0, 1) := by decide +kernel
theorem dX9_init_160 : decode cX9_init 160 = .ok (.getfield 43, 3) := by decide +kernel
theorem dX9_init_163 : decode cX9_init 163 = .ok (.iload_n 1, 1) := by decide +kernel
theorem dX9_init_164 : decode cX9_init 164 = .ok (.new 17, 3) := by decide +kernel
theorem dX9_init_167 : decode cX9_init 167 = .ok (.dup, 1) := by decide +kernel
theorem dX9_init_168 : decode cX9_init 168 = .ok (.invokespecial 19, 3) := by decide +kernel
theorem dX9_init_171 : decode cX9_init 171 = .ok (.aastore, 1) := by decide +kernel
theorem dX9_init_172 : decode cX9_init 172 = .ok (.iinc 1 1, 3) := by decide +kernel
theorem dX9_init_175 : decode cX9_init 175 = .ok (.goto (-25), 3) := by decide +kernel
theorem dX9_init_178 : decode cX9_init 178 = .ok (.return_, 1) := by decide +kernel
theorem dX9_feed_0 : decode cX9_feed 0 = .ok (.aload_n 0, 1) := by decide +kernel
theorem dX9_feed_1 : decode cX9_feed 1 = .ok (.getfield 82, 3) := by decide +kernel
theorem dX9_feed_4 : decode cX9_feed 4 = .ok (.bipush 20, 2) := by decide +kernel
theorem dX9_feed_6 : decode cX9_feed 6 = .ok (.iadd, 1) := by decide +kernel
theorem dX9_feed_7 : decode cX9_feed 7 = .ok (.sipush 400, 3) := by decide +kernel
theorem dX9_feed_10 : decode cX9_feed 10 = .ok (.if_icmp .le 5, 3) := by decide +kernel
theorem dX9_feed_13 : decode cX9_feed 13 = .ok (.iconst (-1), 1) := by decide +kernel
theorem dX9_feed_14 : decode cX9_feed 14 = .ok (.ireturn, 1) := by decide +kernel
theorem dX9_feed_15 : decode cX9_feed 15 = .ok (.aload_n 0, 1) := by decide +kernel
theorem dX9_feed_16 : decode cX9_feed 16 = .ok (.iload_n 1, 1) := by decide +kernel
theorem dX9_feed_17 : decode cX9_feed 17 = .ok (.invokevirtual 85, 3) := by decide +kernel
theorem dX9_feed_20 : decode cX9_feed 20 = .ok (.aload_n 0, 1) := by decide +kernel
theorem dX9_feed_21 : decode cX9_feed 21 = .ok (.iload_n 2, 1) := by decide +kernel
theorem dX9_feed_22 : decode cX9_feed 22 = .ok (.invokevirtual 85, 3) := by decide +kernel
theorem dX9_feed_25 : decode cX9_feed 25 = .ok (.aload_n 0, 1) := by decide +kernel
theorem dX9_feed_26 : decode cX9_feed 26 = .ok (.iload_n 3, 1) := by decide +kernel
theorem dX9_feed_27 : decode cX9_feed 27 = .ok (.invokevirtual 85, 3) := by decide +kernel
theorem dX9_feed_30 : decode cX9_feed 30 = .ok (.aload_n 0, 1) := by decide +kernel
theorem dX9_feed_31 : decode cX9_feed 31 = .ok (.iload 4, 2) := by decide +kernel
theorem dX9_feed_33 : decode cX9_feed 33 = .ok (.invokevirtual 85, 3) := by decide +kernel
theorem dX9_feed_36 : decode cX9_feed 36 = .ok (.aload_n 0, 1) := by decide +kernel
theorem dX9_feed_37 : decode cX9_feed 37 = .ok (.iload 5, 2) := by decide +kernel
theorem dX9_feed_39 : decode cX9_feed 39 = .ok (.invokevirtual 85, 3) := by decide +kernel
theorem dX9_feed_42 : decode cX9_feed 42 = .ok (.aload_n 0, 1) := by decide +kernel
theorem dX9_feed_43 : decode cX9_feed 43 = .ok (.getfield 82, 3) := by decide +kernel
theorem dX9_feed_46 : decode cX9_feed 46 = .ok (.ireturn, 1) := by decide +kernel
theorem dX9_append_0 : decode cX9_append 0 = .ok (.bipush 24, 2) := by decide +kernel
theorem dX9_append_2 : decode cX9_append 2 = .ok (.istore_n 2, 1) := by decide +kernel
theorem dX9_append_3 : decode cX9_append 3 = .ok (.iload_n 2, 1) := by decide +kernel
theorem dX9_append_4 : decode cX9_append 4 = .ok (.ifCond .lt 37, 3) := by decide +kernel
theorem dX9_append_7 : decode cX9_append 7 = .ok (.aload_n 0, 1) := by decide +kernel
theorem dX9_append_8 : decode cX9_append 8 = .ok (.getfield 9, 3) := by decide +kernel
theorem dX9_append_11 : decode cX9_append 11 = .ok (.aload_n 0, 1) := by decide +kernel
theorem dX9_append_12 : decode cX9_append 12 = .ok (.getfield 82, 3) := by decide +kernel
theorem dX9_append_15 : decode cX9_append 15 = .ok (.iload_n 1, 1) := by decide +kernel
theorem dX9_append_16 : decode cX9_append 16 = .ok (.iload_n 2, 1) := by decide +kernel
theorem dX9_append_17 : decode cX9_append 17 = .ok (.iushr, 1) := by decide +kernel
theorem dX9_append_18 : decode cX9_append 18 = .ok (.sipush 255, 3) := by decide +kernel
theorem dX9_append_21 : decode cX9_append 21 = .ok (.iand, 1) := by decide +kernel
theorem dX9_append_22 : decode cX9_append 22 = .ok (.invokestatic 89, 3) := by decide +kernel
theorem dX9_append_25 : decode cX9_append 25 = .ok (.aload_n 0, 1) := by decide +kernel
theorem dX9_append_26 : decode cX9_append 26 = .ok (.dup, 1) := by decide +kernel
theorem dX9_append_27 : decode cX9_append 27 = .ok (.getfield 82, 3) := by decide +kernel
theorem dX9_append_30 : decode cX9_append 30 = .ok (.iconst 1, 1) := by decide +kernel
theorem dX9_append_31 : decode cX9_append 31 = .ok (.iadd, 1) := by decide +kernel
theorem dX9_append_32 : decode cX9_append 32 = .ok (.putfield 82, 3) := by decide +kernel
theorem dX9_append_35 : decode cX9_append 35 = .ok (.iinc 2 (-8), 3) := by decide +kernel
theorem dX9_append_38 : decode cX9_append 38 = .ok (.goto (-35), 3) := by decide +kernel
theorem dX9_append_41 : decode cX9_append 41 = .ok (.return_, 1) := by decide +kernel
theorem dX9_end_0 : decode cX9_end 0 = .ok (.iload_n 1, 1) := by decide +kernel
theorem dX9_end_1 : decode cX9_end 1 = .ok (.ifCond .lt 11, 3) := by decide +kernel
theorem dX9_end_4 : decode cX9_end 4 = .ok (.iload_n 1, 1) := by decide +kernel
theorem dX9_end_5 : decode cX9_end 5 = .ok (.aload_n 0, 1) := by decide +kernel
theorem dX9_end_6 : decode cX9_end 6 = .ok (.getfield 82, 3) := by decide +kernel
theorem dX9_end_9 : decode cX9_end 9 = .ok (.if_icmp .le 5, 3) := by decide +kernel
theorem dX9_end_12 : decode cX9_end 12 = .ok (.iconst 0, 1) := by decide +kernel
theorem dX9_end_13 : decode cX9_end 13 = .ok (.ireturn, 1) := by decide +kernel
theorem dX9_end_14 : decode cX9_end 14 = .ok (.aload_n 0, 1) := by decide +kernel
theorem dX9_end_15 : decode cX9_end 15 = .ok (.iload_n 1, 1) := by decide +kernel
