theorem dX10_law_54 : decode cX10_law 54 = .ok (.istore_n 2, 1) := by decide +kernel
theorem dX10_law_55 : decode cX10_law 55 = .ok (.iload_n 2, 1) := by decide +kernel
theorem dX10_law_56 : decode cX10_law 56 = .ok (.aload_n 0, 1) := by decide +kernel
theorem dX10_law_57 : decode cX10_law 57 = .ok (.getfield 83, 3) := by decide +kernel
theorem dX10_law_60 : decode cX10_law 60 = .ok (.if_icmp .ge 25, 3) := by decide +kernel
theorem dX10_law_63 : decode cX10_law 63 = .ok (.aload_n 0, 1) := by decide +kernel
theorem dX10_law_64 : decode cX10_law 64 = .ok (.getfield 7, 3) := by decide +kernel
theorem dX10_law_67 : decode cX10_law 67 = .ok (.sipush 407, 3) := by decide +kernel
theorem dX10_law_70 : decode cX10_law 70 = .ok (.iload_n 2, 1) := by decide +kernel
theorem dX10_law_71 : decode cX10_law 71 = .ok (.iadd, 1) := by decide +kernel
theorem dX10_law_72 : decode cX10_law 72 = .ok (.aload_n 0, 1) := by decide +kernel
theorem dX10_law_73 : decode cX10_law 73 = .ok (.getfield 22, 3) := by decide +kernel
theorem dX10_law_76 : decode cX10_law 76 = .ok (.iload_n 2, 1) := by decide +kernel
theorem dX10_law_77 : decode cX10_law 77 = .ok (.iaload, 1) := by decide +kernel
theorem dX10_law_78 : decode cX10_law 78 = .ok (.iastore, 1) := by decide +kernel
theorem dX10_law_79 : decode cX10_law 79 = .ok (.iinc 2 1, 3) := by decide +kernel
theorem dX10_law_82 : decode cX10_law 82 = .ok (.goto (-27), 3) := by decide +kernel
theorem dX10_law_85 : decode cX10_law 85 = .ok (.aload_n 0, 1) := by decide +kernel
theorem dX10_law_86 : decode cX10_law 86 = .ok (.iconst 0, 1) := by decide +kernel
theorem dX10_law_87 : decode cX10_law 87 = .ok (.putfield 184, 3) := by decide +kernel
theorem dX10_law_90 : decode cX10_law 90 = .ok (.iload_n 1, 1) := by decide +kernel
theorem dX10_law_91 : decode cX10_law 91 = .ok (.ireturn, 1) := by decide +kernel
theorem dX10_fault_0 : decode cX10_fault 0 = .ok (.aload_n 0, 1) := by decide +kernel
theorem dX10_fault_1 : decode cX10_fault 1 = .ok (.iconst 0, 1) := by decide +kernel
theorem dX10_fault_2 : decode cX10_fault 2 = .ok (.putfield 63, 3) := by decide +kernel
theorem dX10_fault_5 : decode cX10_fault 5 = .ok (.aload_n 0, 1) := by decide +kernel
theorem dX10_fault_6 : decode cX10_fault 6 = .ok (.getfield 25, 3) := by decide +kernel
theorem dX10_fault_9 : decode cX10_fault 9 = .ok (.ireturn, 1) := by decide +kernel
theorem dX10_likesOne_0 : decode cX10_likesOne 0 = .ok (.aload_n 0, 1) := by decide +kernel
theorem dX10_likesOne_1 : decode cX10_likesOne 1 = .ok (.getfield 7, 3) := by decide +kernel
theorem dX10_likesOne_4 : decode cX10_likesOne 4 = .ok (.iconst 1, 1) := by decide +kernel
theorem dX10_likesOne_5 : decode cX10_likesOne 5 = .ok (.iaload, 1) := by decide +kernel
theorem dX10_likesOne_6 : decode cX10_likesOne 6 = .ok (.iconst (-1), 1) := by decide +kernel
theorem dX10_likesOne_7 : decode cX10_likesOne 7 = .ok (.if_icmp .ne 10, 3) := by decide +kernel
theorem dX10_likesOne_10 : decode cX10_likesOne 10 = .ok (.aload_n 0, 1) := by decide +kernel
theorem dX10_likesOne_11 : decode cX10_likesOne 11 = .ok (.iload_n 2, 1) := by decide +kernel
theorem dX10_likesOne_12 : decode cX10_likesOne 12 = .ok (.iconst 1, 1) := by decide +kernel
theorem dX10_likesOne_13 : decode cX10_likesOne 13 = .ok (.invokevirtual 246, 3) := by decide +kernel
theorem dX10_likesOne_16 : decode cX10_likesOne 16 = .ok (.ireturn, 1) := by decide +kernel
theorem dX10_likesOne_17 : decode cX10_likesOne 17 = .ok (.aload_n 0, 1) := by decide +kernel
theorem dX10_likesOne_18 : decode cX10_likesOne 18 = .ok (.getfield 29, 3) := by decide +kernel
theorem dX10_likesOne_21 : decode cX10_likesOne 21 = .ok (.iconst 0, 1) := by decide +kernel
theorem dX10_likesOne_22 : decode cX10_likesOne 22 = .ok (.aload_n 0, 1) := by decide +kernel
theorem dX10_likesOne_23 : decode cX10_likesOne 23 = .ok (.iload_n 2, 1) := by decide +kernel
theorem dX10_likesOne_24 : decode cX10_likesOne 24 = .ok (.iconst 0, 1) := by decide +kernel
theorem dX10_likesOne_25 : decode cX10_likesOne 25 = .ok (.invokevirtual 246, 3) := by decide +kernel
theorem dX10_likesOne_28 : decode cX10_likesOne 28 = .ok (.iastore, 1) := by decide +kernel
theorem dX10_likesOne_29 : decode cX10_likesOne 29 = .ok (.aload_n 0, 1) := by decide +kernel
theorem dX10_likesOne_30 : decode cX10_likesOne 30 = .ok (.getfield 29, 3) := by decide +kernel
theorem dX10_likesOne_33 : decode cX10_likesOne 33 = .ok (.iconst 1, 1) := by decide +kernel
theorem dX10_likesOne_34 : decode cX10_likesOne 34 = .ok (.aload_n 0, 1) := by decide +kernel
theorem dX10_likesOne_35 : decode cX10_likesOne 35 = .ok (.iload_n 2, 1) := by decide +kernel
theorem dX10_likesOne_36 : decode cX10_likesOne 36 = .ok (.iconst 1, 1) := by decide +kernel
theorem dX10_likesOne_37 : decode cX10_likesOne 37 = .ok (.invokevirtual 246, 3) := by decide +kernel
theorem dX10_likesOne_40 : decode cX10_likesOne 40 = .ok (.iastore, 1) := by decide +kernel
theorem dX10_likesOne_41 : decode cX10_likesOne 41 = .ok (.aload_n 0, 1) := by decide +kernel
theorem dX10_likesOne_42 : decode cX10_likesOne 42 = .ok (.getfield 29, 3) := by decide +kernel
theorem dX10_likesOne_45 : decode cX10_likesOne 45 = .ok (.iconst 2, 1) := by decide +kernel
theorem dX10_likesOne_46 : decode cX10_likesOne 46 = .ok (.aload_n 0, 1) := by decide +kernel
theorem dX10_likesOne_47 : decode cX10_likesOne 47 = .ok (.iload_n 2, 1) := by decide +kernel
theorem dX10_likesOne_48 : decode cX10_likesOne 48 = .ok (.iconst 2, 1) := by decide +kernel
theorem dX10_likesOne_49 : decode cX10_likesOne 49 = .ok (.invokevirtual 246, 3) := by decide +kernel
theorem dX10_likesOne_52 : decode cX10_likesOne 52 = .ok (.iastore, 1) := by decide +kernel
theorem dX10_likesOne_53 : decode cX10_likesOne 53 = .ok (.aload_n 0, 1) := by decide +kernel
theorem dX10_likesOne_54 : decode cX10_likesOne 54 = .ok (.getfield 29, 3) := by decide +kernel
theorem dX10_likesOne_57 : decode cX10_likesOne 57 = .ok (.iconst 3, 1) := by decide +kernel
theorem dX10_likesOne_58 : decode cX10_likesOne 58 = .ok (.aload_n 0, 1) := by decide +kernel
theorem dX10_likesOne_59 : decode cX10_likesOne 59 = .ok (.iload_n 1, 1) := by decide +kernel
theorem dX10_likesOne_60 : decode cX10_likesOne 60 = .ok (.iconst 0, 1) := by decide +kernel
theorem dX10_likesOne_61 : decode cX10_likesOne 61 = .ok (.invokevirtual 70, 3) := by decide +kernel
theorem dX10_likesOne_64 : decode cX10_likesOne 64 = .ok (.iastore, 1) := by decide +kernel
theorem dX10_likesOne_65 : decode cX10_likesOne 65 = .ok (.aload_n 0, 1) := by decide +kernel
theorem dX10_likesOne_66 : decode cX10_likesOne 66 = .ok (.getfield 29, 3) := by decide +kernel
theorem dX10_likesOne_69 : decode cX10_likesOne 69 = .ok (.iconst 4, 1) := by decide +kernel
theorem dX10_likesOne_70 : decode cX10_likesOne 70 = .ok (.aload_n 0, 1) := by decide +kernel
theorem dX10_likesOne_71 : decode cX10_likesOne 71 = .ok (.iload_n 1, 1) := by decide +kernel
theorem dX10_likesOne_72 : decode cX10_likesOne 72 = .ok (.iconst 4, 1) := by decide +kernel
theorem dX10_likesOne_73 : decode cX10_likesOne 73 = .ok (.invokevirtual 70, 3) := by decide +kernel
theorem dX10_likesOne_76 : decode cX10_likesOne 76 = .ok (.iastore, 1) := by decide +kernel
theorem dX10_likesOne_77 : decode cX10_likesOne 77 = .ok (.aload_n 0, 1) := by decide +kernel
theorem dX10_likesOne_78 : decode cX10_likesOne 78 = .ok (.getfield 29, 3) := by decide +kernel
theorem dX10_likesOne_81 : decode cX10_likesOne 81 = .ok (.iconst 5, 1) := by decide +kernel
theorem dX10_likesOne_82 : decode cX10_likesOne 82 = .ok (.aload_n 0, 1) := by decide +kernel
theorem dX10_likesOne_83 : decode cX10_likesOne 83 = .ok (.getfield 7, 3) := by decide +kernel
theorem dX10_likesOne_86 : decode cX10_likesOne 86 = .ok (.bipush 6, 2) := by decide +kernel
theorem dX10_likesOne_88 : decode cX10_likesOne 88 = .ok (.iaload, 1) := by decide +kernel
theorem dX10_likesOne_89 : decode cX10_likesOne 89 = .ok (.iastore, 1) := by decide +kernel
theorem dX10_likesOne_90 : decode cX10_likesOne 90 = .ok (.aload_n 0, 1) := by decide +kernel
theorem dX10_likesOne_91 : decode cX10_likesOne 91 = .ok (.iload_n 1, 1) := by decide +kernel
theorem dX10_likesOne_92 : decode cX10_likesOne 92 = .ok (.putfield 241, 3) := by decide +kernel
theorem dX10_likesOne_95 : decode cX10_likesOne 95 = .ok (.aload_n 0, 1) := by decide +kernel
theorem dX10_likesOne_96 : decode cX10_likesOne 96 = .ok (.iload_n 3, 1) := by decide +kernel
theorem dX10_likesOne_97 : decode cX10_likesOne 97 = .ok (.putfield 208, 3) := by decide +kernel
theorem dX10_likesOne_100 : decode cX10_likesOne 100 = .ok (.aload_n 0, 1) := by decide +kernel
theorem dX10_likesOne_101 : decode cX10_likesOne 101 = .ok (.iconst 0, 1) := by decide +kernel
theorem dX10_likesOne_102 : decode cX10_likesOne 102 = .ok (.putfield 244, 3) := by decide +kernel
theorem dX10_likesOne_105 : decode cX10_likesOne 105 = .ok (.aload_n 0, 1) := by decide +kernel
theorem dX10_likesOne_106 : decode cX10_likesOne 106 = .ok (.getfield 25, 3) := by decide +kernel
theorem dX10_likesOne_109 : decode cX10_likesOne 109 = .ok (.istore 4, 2) := by decide +kernel
theorem dX10_likesOne_111 : decode cX10_likesOne 111 = .ok (.aload_n 0, 1) := by decide +kernel
theorem dX10_likesOne_112 : decode cX10_likesOne 112 = .ok (.iconst (-1), 1) := by decide +kernel
theorem dX10_likesOne_113 : decode cX10_likesOne 113 = .ok (.putfield 25, 3) := by decide +kernel
theorem dX10_likesOne_116 : decode cX10_likesOne 116 = .ok (.aload_n 0, 1) := by decide +kernel
theorem dX10_likesOne_117 : decode cX10_likesOne 117 = .ok (.sipush 407, 3) := by decide +kernel
theorem dX10_likesOne_120 : decode cX10_likesOne 120 = .ok (.putfield 77, 3) := by decide +kernel
theorem dX10_likesOne_123 : decode cX10_likesOne 123 = .ok (.aload_n 0, 1) := by decide +kernel
theorem dX10_likesOne_124 : decode cX10_likesOne 124 = .ok (.aload_n 0, 1) := by decide +kernel
theorem dX10_likesOne_125 : decode cX10_likesOne 125 = .ok (.getfield 7, 3) := by decide +kernel
theorem dX10_likesOne_128 : decode cX10_likesOne 128 = .ok (.iconst 2, 1) := by decide +kernel
theorem dX10_likesOne_129 : decode cX10_likesOne 129 = .ok (.iaload, 1) := by decide +kernel
theorem dX10_likesOne_130 : decode cX10_likesOne 130 = .ok (.putfield 83, 3) := by decide +kernel
theorem dX10_likesOne_133 : decode cX10_likesOne 133 = .ok (.aload_n 0, 1) := by decide +kernel
theorem dX10_likesOne_134 : decode cX10_likesOne 134 = .ok (.iconst 0, 1) := by decide +kernel
theorem dX10_likesOne_135 : decode cX10_likesOne 135 = .ok (.putfield 80, 3) := by decide +kernel
theorem dX10_likesOne_138 : decode cX10_likesOne 138 = .ok (.aload_n 0, 1) := by decide +kernel
theorem dX10_likesOne_139 : decode cX10_likesOne 139 = .ok (.iconst 0, 1) := by decide +kernel
theorem dX10_likesOne_140 : decode cX10_likesOne 140 = .ok (.putfield 158, 3) := by decide +kernel
theorem dX10_likesOne_143 : decode cX10_likesOne 143 = .ok (.aload_n 0, 1) := by decide +kernel
theorem dX10_likesOne_144 : decode cX10_likesOne 144 = .ok (.iconst 1, 1) := by decide +kernel
theorem dX10_likesOne_145 : decode cX10_likesOne 145 = .ok (.invokevirtual 177, 3) := by decide +kernel
theorem dX10_likesOne_148 : decode cX10_likesOne 148 = .ok (.istore 5, 2) := by decide +kernel
theorem dX10_likesOne_150 : decode cX10_likesOne 150 = .ok (.aload_n 0, 1) := by decide +kernel
theorem dX10_likesOne_151 : decode cX10_likesOne 151 = .ok (.iload 4, 2) := by decide +kernel
theorem dX10_likesOne_153 : decode cX10_likesOne 153 = .ok (.putfield 25, 3) := by decide +kernel
theorem dX10_likesOne_156 : decode cX10_likesOne 156 = .ok (.iconst 0, 1) := by decide +kernel
theorem dX10_likesOne_157 : decode cX10_likesOne 157 = .ok (.aload_n 0, 1) := by decide +kernel
theorem dX10_likesOne_158 : decode cX10_likesOne 158 = .ok (.getfield 244, 3) := by decide +kernel
theorem dX10_likesOne_161 : decode cX10_likesOne 161 = .ok (.invokestatic 249, 3) := by decide +kernel
theorem dX10_likesOne_164 : decode cX10_likesOne 164 = .ok (.ireturn, 1) := by decide +kernel
theorem dX10_rings_0 : decode cX10_rings 0 = .ok (.aload_n 0, 1) := by decide +kernel
theorem dX10_rings_1 : decode cX10_rings 1 = .ok (.iload_n 1, 1) := by decide +kernel
theorem dX10_rings_2 : decode cX10_rings 2 = .ok (.iconst 3, 1) := by decide +kernel
theorem dX10_rings_3 : decode cX10_rings 3 = .ok (.invokevirtual 70, 3) := by decide +kernel
theorem dX10_rings_6 : decode cX10_rings 6 = .ok (.iconst 1, 1) := by decide +kernel
theorem dX10_rings_7 : decode cX10_rings 7 = .ok (.if_icmp .ne 28, 3) := by decide +kernel
theorem dX10_rings_10 : decode cX10_rings 10 = .ok (.iload_n 2, 1) := by decide +kernel
theorem dX10_rings_11 : decode cX10_rings 11 = .ok (.ifCond .le 24, 3) := by decide +kernel
theorem dX10_rings_14 : decode cX10_rings 14 = .ok (.iload_n 2, 1) := by decide +kernel
theorem dX10_rings_15 : decode cX10_rings 15 = .ok (.aload_n 0, 1) := by decide +kernel
theorem dX10_rings_16 : decode cX10_rings 16 = .ok (.iload_n 1, 1) := by decide +kernel
theorem dX10_rings_17 : decode cX10_rings 17 = .ok (.iconst 1, 1) := by decide +kernel
theorem dX10_rings_18 : decode cX10_rings 18 = .ok (.invokevirtual 70, 3) := by decide +kernel
theorem dX10_rings_21 : decode cX10_rings 21 = .ok (.aload_n 0, 1) := by decide +kernel
theorem dX10_rings_22 : decode cX10_rings 22 = .ok (.iload_n 1, 1) := by decide +kernel
theorem dX10_rings_23 : decode cX10_rings 23 = .ok (.iconst 4, 1) := by decide +kernel
theorem dX10_rings_24 : decode cX10_rings 24 = .ok (.invokevirtual 70, 3) := by decide +kernel
theorem dX10_rings_27 : decode cX10_rings 27 = .ok (.isub, 1) := by decide +kernel
theorem dX10_rings_28 : decode cX10_rings 28 = .ok (.if_icmp .lt 7, 3) := by decide +kernel
theorem dX10_rings_31 : decode cX10_rings 31 = .ok (.iconst 1, 1) := by decide +kernel
theorem dX10_rings_32 : decode cX10_rings 32 = .ok (.goto 4, 3) := by decide +kernel
theorem dX10_rings_35 : decode cX10_rings 35 = .ok (.iconst 0, 1) := by decide +kernel
theorem dX10_rings_36 : decode cX10_rings 36 = .ok (.ireturn, 1) := by decide +kernel
theorem dX10_asks_0 : decode cX10_asks 0 = .ok (.iconst 0, 1) := by decide +kernel
theorem dX10_asks_1 : decode cX10_asks 1 = .ok (.istore_n 1, 1) := by decide +kernel
theorem dX10_asks_2 : decode cX10_asks 2 = .ok (.iload_n 1, 1) := by decide +kernel
theorem dX10_asks_3 : decode cX10_asks 3 = .ok (.aload_n 0, 1) := by decide +kernel
theorem dX10_asks_4 : decode cX10_asks 4 = .ok (.getfield 7, 3) := by decide +kernel
theorem dX10_asks_7 : decode cX10_asks 7 = .ok (.iconst 3, 1) := by decide +kernel
theorem dX10_asks_8 : decode cX10_asks 8 = .ok (.iaload, 1) := by decide +kernel
theorem dX10_asks_9 : decode cX10_asks 9 = .ok (.if_icmp .ge 50, 3) := by decide +kernel
theorem dX10_asks_12 : decode cX10_asks 12 = .ok (.iconst 0, 1) := by decide +kernel
theorem dX10_asks_13 : decode cX10_asks 13 = .ok (.istore_n 2, 1) := by decide +kernel
theorem dX10_asks_14 : decode cX10_asks 14 = .ok (.iload_n 2, 1) := by decide +kernel
theorem dX10_asks_15 : decode cX10_asks 15 = .ok (.aload_n 0, 1) := by decide +kernel
theorem dX10_asks_16 : decode cX10_asks 16 = .ok (.getfield 7, 3) := by decide +kernel
theorem dX10_asks_19 : decode cX10_asks 19 = .ok (.iconst 4, 1) := by decide +kernel
theorem dX10_asks_20 : decode cX10_asks 20 = .ok (.iaload, 1) := by decide +kernel
theorem dX10_asks_21 : decode cX10_asks 21 = .ok (.if_icmp .ge 32, 3) := by decide +kernel
theorem dX10_asks_24 : decode cX10_asks 24 = .ok (.aload_n 0, 1) := by decide +kernel
theorem dX10_asks_25 : decode cX10_asks 25 = .ok (.getfield 32, 3) := by decide +kernel
theorem dX10_asks_28 : decode cX10_asks 28 = .ok (.bipush 10, 2) := by decide +kernel
theorem dX10_asks_30 : decode cX10_asks 30 = .ok (.iload_n 1, 1) := by decide +kernel
theorem dX10_asks_31 : decode cX10_asks 31 = .ok (.imul, 1) := by decide +kernel
theorem dX10_asks_32 : decode cX10_asks 32 = .ok (.iload_n 2, 1) := by decide +kernel
theorem dX10_asks_33 : decode cX10_asks 33 = .ok (.iadd, 1) := by decide +kernel
theorem dX10_asks_34 : decode cX10_asks 34 = .ok (.aload_n 0, 1) := by decide +kernel
theorem dX10_asks_35 : decode cX10_asks 35 = .ok (.iload_n 1, 1) := by decide +kernel
theorem dX10_asks_36 : decode cX10_asks 36 = .ok (.iload_n 2, 1) := by decide +kernel
theorem dX10_asks_37 : decode cX10_asks 37 = .ok (.aload_n 0, 1) := by decide +kernel
theorem dX10_asks_38 : decode cX10_asks 38 = .ok (.iload_n 2, 1) := by decide +kernel
theorem dX10_asks_39 : decode cX10_asks 39 = .ok (.iconst 4, 1) := by decide +kernel
theorem dX10_asks_40 : decode cX10_asks 40 = .ok (.invokevirtual 246, 3) := by decide +kernel
theorem dX10_asks_43 : decode cX10_asks 43 = .ok (.invokevirtual 252, 3) := by decide +kernel
theorem dX10_asks_46 : decode cX10_asks 46 = .ok (.iastore, 1) := by decide +kernel
theorem dX10_asks_47 : decode cX10_asks 47 = .ok (.iinc 2 1, 3) := by decide +kernel
theorem dX10_asks_50 : decode cX10_asks 50 = .ok (.goto (-36), 3) := by decide +kernel
theorem dX10_asks_53 : decode cX10_asks 53 = .ok (.iinc 1 1, 3) := by decide +kernel
theorem dX10_asks_56 : decode cX10_asks 56 = .ok (.goto (-54), 3) := by decide +kernel
theorem dX10_asks_59 : decode cX10_asks 59 = .ok (.return_, 1) := by decide +kernel
theorem dX10_canHave_0 : decode cX10_canHave 0 = .ok (.aload_n 0, 1) := by decide +kernel
theorem dX10_canHave_1 : decode cX10_canHave 1 = .ok (.iload_n 1, 1) := by decide +kernel
theorem dX10_canHave_2 : decode cX10_canHave 2 = .ok (.aload_n 0, 1) := by decide +kernel
theorem dX10_canHave_3 : decode cX10_canHave 3 = .ok (.getfield 32, 3) := by decide +kernel
theorem dX10_canHave_6 : decode cX10_canHave 6 = .ok (.bipush 10, 2) := by decide +kernel
theorem dX10_canHave_8 : decode cX10_canHave 8 = .ok (.iload_n 1, 1) := by decide +kernel
theorem dX10_canHave_9 : decode cX10_canHave 9 = .ok (.imul, 1) := by decide +kernel
theorem dX10_canHave_10 : decode cX10_canHave 10 = .ok (.iload_n 2, 1) := by decide +kernel
theorem dX10_canHave_11 : decode cX10_canHave 11 = .ok (.iadd, 1) := by decide +kernel
theorem dX10_canHave_12 : decode cX10_canHave 12 = .ok (.iaload, 1) := by decide +kernel
theorem dX10_canHave_13 : decode cX10_canHave 13 = .ok (.invokevirtual 256, 3) := by decide +kernel
theorem dX10_canHave_16 : decode cX10_canHave 16 = .ok (.ireturn, 1) := by decide +kernel
theorem dX10_ledPast_0 : decode cX10_ledPast 0 = .ok (.iconst (-1), 1) := by decide +kernel
theorem dX10_ledPast_1 : decode cX10_ledPast 1 = .ok (.istore_n 2, 1) := by decide +kernel
theorem dX10_ledPast_2 : decode cX10_ledPast 2 = .ok (.iconst 0, 1) := by decide +kernel
theorem dX10_ledPast_3 : decode cX10_ledPast 3 = .ok (.istore_n 3, 1) := by decide +kernel
theorem dX10_ledPast_4 : decode cX10_ledPast 4 = .ok (.iload_n 3, 1) := by decide +kernel
theorem dX10_ledPast_5 : decode cX10_ledPast 5 = .ok (.aload_n 0, 1) := by decide +kernel
theorem dX10_ledPast_6 : decode cX10_ledPast 6 = .ok (.getfield 7, 3) := by decide +kernel
theorem dX10_ledPast_9 : decode cX10_ledPast 9 = .ok (.iconst 3, 1) := by decide +kernel
theorem dX10_ledPast_10 : decode cX10_ledPast 10 = .ok (.iaload, 1) := by decide +kernel
theorem dX10_ledPast_11 : decode cX10_ledPast 11 = .ok (.if_icmp .ge 116, 3) := by decide +kernel
theorem dX10_ledPast_14 : decode cX10_ledPast 14 = .ok (.aload_n 0, 1) := by decide +kernel
theorem dX10_ledPast_15 : decode cX10_ledPast 15 = .ok (.getfield 41, 3) := by decide +kernel
theorem dX10_ledPast_18 : decode cX10_ledPast 18 = .ok (.iload_n 3, 1) := by decide +kernel
theorem dX10_ledPast_19 : decode cX10_ledPast 19 = .ok (.iaload, 1) := by decide +kernel
theorem dX10_ledPast_20 : decode cX10_ledPast 20 = .ok (.aload_n 0, 1) := by decide +kernel
theorem dX10_ledPast_21 : decode cX10_ledPast 21 = .ok (.iload_n 3, 1) := by decide +kernel
theorem dX10_ledPast_22 : decode cX10_ledPast 22 = .ok (.iconst 2, 1) := by decide +kernel
theorem dX10_ledPast_23 : decode cX10_ledPast 23 = .ok (.invokevirtual 70, 3) := by decide +kernel
theorem dX10_ledPast_26 : decode cX10_ledPast 26 = .ok (.if_icmp .eq 95, 3) := by decide +kernel
theorem dX10_ledPast_29 : decode cX10_ledPast 29 = .ok (.aload_n 0, 1) := by decide +kernel
theorem dX10_ledPast_30 : decode cX10_ledPast 30 = .ok (.iload_n 3, 1) := by decide +kernel
theorem dX10_ledPast_31 : decode cX10_ledPast 31 = .ok (.iload_n 1, 1) := by decide +kernel
theorem dX10_ledPast_32 : decode cX10_ledPast 32 = .ok (.invokevirtual 259, 3) := by decide +kernel
theorem dX10_ledPast_35 : decode cX10_ledPast 35 = .ok (.ifCond .ne 6, 3) := by decide +kernel
theorem dX10_ledPast_38 : decode cX10_ledPast 38 = .ok (.goto 83, 3) := by decide +kernel
theorem dX10_ledPast_41 : decode cX10_ledPast 41 = .ok (.aload_n 0, 1) := by decide +kernel
theorem dX10_ledPast_42 : decode cX10_ledPast 42 = .ok (.iload_n 3, 1) := by decide +kernel
theorem dX10_ledPast_43 : decode cX10_ledPast 43 = .ok (.iconst 0, 1) := by decide +kernel
theorem dX10_ledPast_44 : decode cX10_ledPast 44 = .ok (.invokevirtual 70, 3) := by decide +kernel
theorem dX10_ledPast_47 : decode cX10_ledPast 47 = .ok (.aload_n 0, 1) := by decide +kernel
theorem dX10_ledPast_48 : decode cX10_ledPast 48 = .ok (.getfield 7, 3) := by decide +kernel
theorem dX10_ledPast_51 : decode cX10_ledPast 51 = .ok (.iconst 5, 1) := by decide +kernel
theorem dX10_ledPast_52 : decode cX10_ledPast 52 = .ok (.iaload, 1) := by decide +kernel
theorem dX10_ledPast_53 : decode cX10_ledPast 53 = .ok (.idiv, 1) := by decide +kernel
theorem dX10_ledPast_54 : decode cX10_ledPast 54 = .ok (.istore 4, 2) := by decide +kernel
theorem dX10_ledPast_56 : decode cX10_ledPast 56 = .ok (.iload_n 2, 1) := by decide +kernel
theorem dX10_ledPast_57 : decode cX10_ledPast 57 = .ok (.iconst (-1), 1) := by decide +kernel
theorem dX10_ledPast_58 : decode cX10_ledPast 58 = .ok (.if_icmp .eq 53, 3) := by decide +kernel
theorem dX10_ledPast_61 : decode cX10_ledPast 61 = .ok (.iload 4, 2) := by decide +kernel
theorem dX10_ledPast_63 : decode cX10_ledPast 63 = .ok (.aload_n 0, 1) := by decide +kernel
theorem dX10_ledPast_64 : decode cX10_ledPast 64 = .ok (.getfield 38, 3) := by decide +kernel
theorem dX10_ledPast_67 : decode cX10_ledPast 67 = .ok (.iload_n 1, 1) := by decide +kernel
theorem dX10_ledPast_68 : decode cX10_ledPast 68 = .ok (.iaload, 1) := by decide +kernel
theorem dX10_ledPast_69 : decode cX10_ledPast 69 = .ok (.if_icmp .gt 52, 3) := by decide +kernel
theorem dX10_ledPast_72 : decode cX10_ledPast 72 = .ok (.iload 4, 2) := by decide +kernel
theorem dX10_ledPast_74 : decode cX10_ledPast 74 = .ok (.aload_n 0, 1) := by decide +kernel
theorem dX10_ledPast_75 : decode cX10_ledPast 75 = .ok (.getfield 38, 3) := by decide +kernel
theorem dX10_ledPast_78 : decode cX10_ledPast 78 = .ok (.iload_n 1, 1) := by decide +kernel
theorem dX10_ledPast_79 : decode cX10_ledPast 79 = .ok (.iaload, 1) := by decide +kernel
theorem dX10_ledPast_80 : decode cX10_ledPast 80 = .ok (.if_icmp .ne 31, 3) := by decide +kernel
theorem dX10_ledPast_83 : decode cX10_ledPast 83 = .ok (.aload_n 0, 1) := by decide +kernel
theorem dX10_ledPast_84 : decode cX10_ledPast 84 = .ok (.getfield 32, 3) := by decide +kernel
theorem dX10_ledPast_87 : decode cX10_ledPast 87 = .ok (.bipush 10, 2) := by decide +kernel
theorem dX10_ledPast_89 : decode cX10_ledPast 89 = .ok (.iload_n 3, 1) := by decide +kernel
theorem dX10_ledPast_90 : decode cX10_ledPast 90 = .ok (.imul, 1) := by decide +kernel
theorem dX10_ledPast_91 : decode cX10_ledPast 91 = .ok (.iload_n 1, 1) := by decide +kernel
theorem dX10_ledPast_92 : decode cX10_ledPast 92 = .ok (.iadd, 1) := by decide +kernel
theorem dX10_ledPast_93 : decode cX10_ledPast 93 = .ok (.iaload, 1) := by decide +kernel
theorem dX10_ledPast_94 : decode cX10_ledPast 94 = .ok (.aload_n 0, 1) := by decide +kernel
theorem dX10_ledPast_95 : decode cX10_ledPast 95 = .ok (.getfield 32, 3) := by decide +kernel
theorem dX10_ledPast_98 : decode cX10_ledPast 98 = .ok (.bipush 10, 2) := by decide +kernel
theorem dX10_ledPast_100 : decode cX10_ledPast 100 = .ok (.iload_n 2, 1) := by decide +kernel
theorem dX10_ledPast_101 : decode cX10_ledPast 101 = .ok (.imul, 1) := by decide +kernel
theorem dX10_ledPast_102 : decode cX10_ledPast 102 = .ok (.iload_n 1, 1) := by decide +kernel
theorem dX10_ledPast_103 : decode cX10_ledPast 103 = .ok (.iadd, 1) := by decide +kernel
theorem dX10_ledPast_104 : decode cX10_ledPast 104 = .ok (.iaload, 1) := by decide +kernel
theorem dX10_ledPast_105 : decode cX10_ledPast 105 = .ok (.if_icmp .gt 6, 3) := by decide +kernel
theorem dX10_ledPast_108 : decode cX10_ledPast 108 = .ok (.goto 13, 3) := by decide +kernel
theorem dX10_ledPast_111 : decode cX10_ledPast 111 = .ok (.iload_n 3, 1) := by decide +kernel
theorem dX10_ledPast_112 : decode cX10_ledPast 112 = .ok (.istore_n 2, 1) := by decide +kernel
theorem dX10_ledPast_113 : decode cX10_ledPast 113 = .ok (.aload_n 0, 1) := by decide +kernel
theorem dX10_ledPast_114 : decode cX10_ledPast 114 = .ok (.getfield 38, 3) := by decide +kernel
theorem dX10_ledPast_117 : decode cX10_ledPast 117 = .ok (.iload_n 1, 1) := by decide +kernel
theorem dX10_ledPast_118 : decode cX10_ledPast 118 = .ok (.iload 4, 2) := by decide +kernel
theorem dX10_ledPast_120 : decode cX10_ledPast 120 = .ok (.iastore, 1) := by decide +kernel
theorem dX10_ledPast_121 : decode cX10_ledPast 121 = .ok (.iinc 3 1, 3) := by decide +kernel
theorem dX10_ledPast_124 : decode cX10_ledPast 124 = .ok (.goto (-120), 3) := by decide +kernel
theorem dX10_ledPast_127 : decode cX10_ledPast 127 = .ok (.iload_n 2, 1) := by decide +kernel
theorem dX10_ledPast_128 : decode cX10_ledPast 128 = .ok (.ireturn, 1) := by decide +kernel
theorem dX10_beginsDay_0 : decode cX10_beginsDay 0 = .ok (.iconst 0, 1) := by decide +kernel
theorem dX10_beginsDay_1 : decode cX10_beginsDay 1 = .ok (.istore_n 1, 1) := by decide +kernel
theorem dX10_beginsDay_2 : decode cX10_beginsDay 2 = .ok (.iload_n 1, 1) := by decide +kernel
theorem dX10_beginsDay_3 : decode cX10_beginsDay 3 = .ok (.bipush 9, 2) := by decide +kernel
theorem dX10_beginsDay_5 : decode cX10_beginsDay 5 = .ok (.if_icmp .ge 16, 3) := by decide +kernel
theorem dX10_beginsDay_8 : decode cX10_beginsDay 8 = .ok (.aload_n 0, 1) := by decide +kernel
theorem dX10_beginsDay_9 : decode cX10_beginsDay 9 = .ok (.getfield 41, 3) := by decide +kernel
theorem dX10_beginsDay_12 : decode cX10_beginsDay 12 = .ok (.iload_n 1, 1) := by decide +kernel
theorem dX10_beginsDay_13 : decode cX10_beginsDay 13 = .ok (.iconst 0, 1) := by decide +kernel
theorem dX10_beginsDay_14 : decode cX10_beginsDay 14 = .ok (.iastore, 1) := by decide +kernel
theorem dX10_beginsDay_15 : decode cX10_beginsDay 15 = .ok (.iinc 1 1, 3) := by decide +kernel
theorem dX10_beginsDay_18 : decode cX10_beginsDay 18 = .ok (.goto (-16), 3) := by decide +kernel
theorem dX10_beginsDay_21 : decode cX10_beginsDay 21 = .ok (.iconst 0, 1) := by decide +kernel
theorem dX10_beginsDay_22 : decode cX10_beginsDay 22 = .ok (.istore_n 1, 1) := by decide +kernel
theorem dX10_beginsDay_23 : decode cX10_beginsDay 23 = .ok (.iload_n 1, 1) := by decide +kernel
theorem dX10_beginsDay_24 : decode cX10_beginsDay 24 = .ok (.bipush 10, 2) := by decide +kernel
theorem dX10_beginsDay_26 : decode cX10_beginsDay 26 = .ok (.if_icmp .ge 23, 3) := by decide +kernel
theorem dX10_beginsDay_29 : decode cX10_beginsDay 29 = .ok (.aload_n 0, 1) := by decide +kernel
theorem dX10_beginsDay_30 : decode cX10_beginsDay 30 = .ok (.getfield 35, 3) := by decide +kernel
theorem dX10_beginsDay_33 : decode cX10_beginsDay 33 = .ok (.iload_n 1, 1) := by decide +kernel
theorem dX10_beginsDay_34 : decode cX10_beginsDay 34 = .ok (.iconst (-1), 1) := by decide +kernel
theorem dX10_beginsDay_35 : decode cX10_beginsDay 35 = .ok (.iastore, 1) := by decide +kernel
theorem dX10_beginsDay_36 : decode cX10_beginsDay 36 = .ok (.aload_n 0, 1) := by decide +kernel
theorem dX10_beginsDay_37 : decode cX10_beginsDay 37 = .ok (.getfield 38, 3) := by decide +kernel
theorem dX10_beginsDay_40 : decode cX10_beginsDay 40 = .ok (.iload_n 1, 1) := by decide +kernel
theorem dX10_beginsDay_41 : decode cX10_beginsDay 41 = .ok (.iconst (-1), 1) := by decide +kernel
theorem dX10_beginsDay_42 : decode cX10_beginsDay 42 = .ok (.iastore, 1) := by decide +kernel
theorem dX10_beginsDay_43 : decode cX10_beginsDay 43 = .ok (.iinc 1 1, 3) := by decide +kernel
theorem dX10_beginsDay_46 : decode cX10_beginsDay 46 = .ok (.goto (-23), 3) := by decide +kernel
theorem dX10_beginsDay_49 : decode cX10_beginsDay 49 = .ok (.return_, 1) := by decide +kernel
theorem dX10_leads_0 : decode cX10_leads 0 = .ok (.aload_n 0, 1) := by decide +kernel
theorem dX10_leads_1 : decode cX10_leads 1 = .ok (.invokevirtual 262, 3) := by decide +kernel
theorem dX10_leads_4 : decode cX10_leads 4 = .ok (.iconst 0, 1) := by decide +kernel
theorem dX10_leads_5 : decode cX10_leads 5 = .ok (.istore_n 2, 1) := by decide +kernel
theorem dX10_leads_6 : decode cX10_leads 6 = .ok (.iload_n 2, 1) := by decide +kernel
theorem dX10_leads_7 : decode cX10_leads 7 = .ok (.aload_n 0, 1) := by decide +kernel
theorem dX10_leads_8 : decode cX10_leads 8 = .ok (.getfield 7, 3) := by decide +kernel
theorem dX10_leads_11 : decode cX10_leads 11 = .ok (.iconst 4, 1) := by decide +kernel
theorem dX10_leads_12 : decode cX10_leads 12 = .ok (.iaload, 1) := by decide +kernel
theorem dX10_leads_13 : decode cX10_leads 13 = .ok (.if_icmp .ge 67, 3) := by decide +kernel
theorem dX10_leads_16 : decode cX10_leads 16 = .ok (.iload_n 1, 1) := by decide +kernel
theorem dX10_leads_17 : decode cX10_leads 17 = .ok (.ifCond .eq 21, 3) := by decide +kernel
theorem dX10_leads_20 : decode cX10_leads 20 = .ok (.aload_n 0, 1) := by decide +kernel
theorem dX10_leads_21 : decode cX10_leads 21 = .ok (.bipush 100, 2) := by decide +kernel
theorem dX10_leads_23 : decode cX10_leads 23 = .ok (.invokevirtual 265, 3) := by decide +kernel
theorem dX10_leads_26 : decode cX10_leads 26 = .ok (.aload_n 0, 1) := by decide +kernel
theorem dX10_leads_27 : decode cX10_leads 27 = .ok (.iload_n 2, 1) := by decide +kernel
theorem dX10_leads_28 : decode cX10_leads 28 = .ok (.iconst 3, 1) := by decide +kernel
theorem dX10_leads_29 : decode cX10_leads 29 = .ok (.invokevirtual 246, 3) := by decide +kernel
theorem dX10_leads_32 : decode cX10_leads 32 = .ok (.if_icmp .ge 6, 3) := by decide +kernel
theorem dX10_leads_35 : decode cX10_leads 35 = .ok (.goto 39, 3) := by decide +kernel
theorem dX10_leads_38 : decode cX10_leads 38 = .ok (.aload_n 0, 1) := by decide +kernel
theorem dX10_leads_39 : decode cX10_leads 39 = .ok (.getfield 35, 3) := by decide +kernel
theorem dX10_leads_42 : decode cX10_leads 42 = .ok (.iload_n 2, 1) := by decide +kernel
theorem dX10_leads_43 : decode cX10_leads 43 = .ok (.aload_n 0, 1) := by decide +kernel
theorem dX10_leads_44 : decode cX10_leads 44 = .ok (.iload_n 2, 1) := by decide +kernel
theorem dX10_leads_45 : decode cX10_leads 45 = .ok (.invokevirtual 268, 3) := by decide +kernel
theorem dX10_leads_48 : decode cX10_leads 48 = .ok (.iastore, 1) := by decide +kernel
theorem dX10_leads_49 : decode cX10_leads 49 = .ok (.aload_n 0, 1) := by decide +kernel
theorem dX10_leads_50 : decode cX10_leads 50 = .ok (.getfield 35, 3) := by decide +kernel
theorem dX10_leads_53 : decode cX10_leads 53 = .ok (.iload_n 2, 1) := by decide +kernel
theorem dX10_leads_54 : decode cX10_leads 54 = .ok (.iaload, 1) := by decide +kernel
theorem dX10_leads_55 : decode cX10_leads 55 = .ok (.iconst (-1), 1) := by decide +kernel
theorem dX10_leads_56 : decode cX10_leads 56 = .ok (.if_icmp .eq 18, 3) := by decide +kernel
theorem dX10_leads_59 : decode cX10_leads 59 = .ok (.aload_n 0, 1) := by decide +kernel
theorem dX10_leads_60 : decode cX10_leads 60 = .ok (.getfield 41, 3) := by decide +kernel
theorem dX10_leads_63 : decode cX10_leads 63 = .ok (.aload_n 0, 1) := by decide +kernel
theorem dX10_leads_64 : decode cX10_leads 64 = .ok (.getfield 35, 3) := by decide +kernel
theorem dX10_leads_67 : decode cX10_leads 67 = .ok (.iload_n 2, 1) := by decide +kernel
theorem dX10_leads_68 : decode cX10_leads 68 = .ok (.iaload, 1) := by decide +kernel
theorem dX10_leads_69 : decode cX10_leads 69 = .ok (.dup2, 1) := by decide +kernel
theorem dX10_leads_70 : decode cX10_leads 70 = .ok (.iaload, 1) := by decide +kernel
theorem dX10_leads_71 : decode cX10_leads 71 = .ok (.iconst 1, 1) := by decide +kernel
theorem dX10_leads_72 : decode cX10_leads 72 = .ok (.iadd, 1) := by decide +kernel
theorem dX10_leads_73 : decode cX10_leads 73 = .ok (.iastore, 1) := by decide +kernel
theorem dX10_leads_74 : decode cX10_leads 74 = .ok (.iinc 2 1, 3) := by decide +kernel
theorem dX10_leads_77 : decode cX10_leads 77 = .ok (.goto (-71), 3) := by decide +kernel
theorem dX10_leads_80 : decode cX10_leads 80 = .ok (.return_, 1) := by decide +kernel
theorem dX10_draw_0 : decode cX10_draw 0 = .ok (.aload_n 0, 1) := by decide +kernel
theorem dX10_draw_1 : decode cX10_draw 1 = .ok (.getfield 7, 3) := by decide +kernel
theorem dX10_draw_4 : decode cX10_draw 4 = .ok (.bipush 9, 2) := by decide +kernel
theorem dX10_draw_6 : decode cX10_draw 6 = .ok (.ldc_w 271, 3) := by decide +kernel
theorem dX10_draw_9 : decode cX10_draw 9 = .ok (.aload_n 0, 1) := by decide +kernel
theorem dX10_draw_10 : decode cX10_draw 10 = .ok (.getfield 7, 3) := by decide +kernel
theorem dX10_draw_13 : decode cX10_draw 13 = .ok (.bipush 9, 2) := by decide +kernel
theorem dX10_draw_15 : decode cX10_draw 15 = .ok (.iaload, 1) := by decide +kernel
theorem dX10_draw_16 : decode cX10_draw 16 = .ok (.imul, 1) := by decide +kernel
theorem dX10_draw_17 : decode cX10_draw 17 = .ok (.sipush 12345, 3) := by decide +kernel
theorem dX10_draw_20 : decode cX10_draw 20 = .ok (.iadd, 1) := by decide +kernel
theorem dX10_draw_21 : decode cX10_draw 21 = .ok (.iastore, 1) := by decide +kernel
theorem dX10_draw_22 : decode cX10_draw 22 = .ok (.aload_n 0, 1) := by decide +kernel
theorem dX10_draw_23 : decode cX10_draw 23 = .ok (.getfield 7, 3) := by decide +kernel
theorem dX10_draw_26 : decode cX10_draw 26 = .ok (.bipush 9, 2) := by decide +kernel
theorem dX10_draw_28 : decode cX10_draw 28 = .ok (.iaload, 1) := by decide +kernel
theorem dX10_draw_29 : decode cX10_draw 29 = .ok (.bipush 16, 2) := by decide +kernel
theorem dX10_draw_31 : decode cX10_draw 31 = .ok (.iushr, 1) := by decide +kernel
theorem dX10_draw_32 : decode cX10_draw 32 = .ok (.sipush 32767, 3) := by decide +kernel
theorem dX10_draw_35 : decode cX10_draw 35 = .ok (.iand, 1) := by decide +kernel
theorem dX10_draw_36 : decode cX10_draw 36 = .ok (.iload_n 1, 1) := by decide +kernel
theorem dX10_draw_37 : decode cX10_draw 37 = .ok (.irem, 1) := by decide +kernel
theorem dX10_draw_38 : decode cX10_draw 38 = .ok (.ireturn, 1) := by decide +kernel
theorem dX10_goesBy_0 : decode cX10_goesBy 0 = .ok (.aload_n 0, 1) := by decide +kernel
theorem dX10_goesBy_1 : decode cX10_goesBy 1 = .ok (.invokevirtual 272, 3) := by decide +kernel
theorem dX10_goesBy_4 : decode cX10_goesBy 4 = .ok (.aload_n 0, 1) := by decide +kernel
theorem dX10_goesBy_5 : decode cX10_goesBy 5 = .ok (.iload_n 1, 1) := by decide +kernel
theorem dX10_goesBy_6 : decode cX10_goesBy 6 = .ok (.invokevirtual 275, 3) := by decide +kernel
theorem dX10_goesBy_9 : decode cX10_goesBy 9 = .ok (.iconst 0, 1) := by decide +kernel
theorem dX10_goesBy_10 : decode cX10_goesBy 10 = .ok (.istore_n 2, 1) := by decide +kernel
theorem dX10_goesBy_11 : decode cX10_goesBy 11 = .ok (.iconst 0, 1) := by decide +kernel
theorem dX10_goesBy_12 : decode cX10_goesBy 12 = .ok (.istore_n 3, 1) := by decide +kernel
theorem dX10_goesBy_13 : decode cX10_goesBy 13 = .ok (.iload_n 3, 1) := by decide +kernel
theorem dX10_goesBy_14 : decode cX10_goesBy 14 = .ok (.aload_n 0, 1) := by decide +kernel
theorem dX10_goesBy_15 : decode cX10_goesBy 15 = .ok (.getfield 7, 3) := by decide +kernel
theorem dX10_goesBy_18 : decode cX10_goesBy 18 = .ok (.iconst 4, 1) := by decide +kernel
theorem dX10_goesBy_19 : decode cX10_goesBy 19 = .ok (.iaload, 1) := by decide +kernel
theorem dX10_goesBy_20 : decode cX10_goesBy 20 = .ok (.if_icmp .ge 156, 3) := by decide +kernel
theorem dX10_goesBy_23 : decode cX10_goesBy 23 = .ok (.aload_n 0, 1) := by decide +kernel
theorem dX10_goesBy_24 : decode cX10_goesBy 24 = .ok (.getfield 35, 3) := by decide +kernel
theorem dX10_goesBy_27 : decode cX10_goesBy 27 = .ok (.iload_n 3, 1) := by decide +kernel
theorem dX10_goesBy_28 : decode cX10_goesBy 28 = .ok (.iaload, 1) := by decide +kernel
theorem dX10_goesBy_29 : decode cX10_goesBy 29 = .ok (.iconst (-1), 1) := by decide +kernel
theorem dX10_goesBy_30 : decode cX10_goesBy 30 = .ok (.if_icmp .ne 6, 3) := by decide +kernel
theorem dX10_goesBy_33 : decode cX10_goesBy 33 = .ok (.goto 137, 3) := by decide +kernel
theorem dX10_goesBy_36 : decode cX10_goesBy 36 = .ok (.iinc 2 1, 3) := by decide +kernel
theorem dX10_goesBy_39 : decode cX10_goesBy 39 = .ok (.sipush 299, 3) := by decide +kernel
theorem dX10_goesBy_42 : decode cX10_goesBy 42 = .ok (.istore 4, 2) := by decide +kernel
theorem dX10_goesBy_44 : decode cX10_goesBy 44 = .ok (.iload 4, 2) := by decide +kernel
theorem dX10_goesBy_46 : decode cX10_goesBy 46 = .ok (.iconst 5, 1) := by decide +kernel
theorem dX10_goesBy_47 : decode cX10_goesBy 47 = .ok (.if_icmp .lt 31, 3) := by decide +kernel
theorem dX10_goesBy_50 : decode cX10_goesBy 50 = .ok (.aload_n 0, 1) := by decide +kernel
theorem dX10_goesBy_51 : decode cX10_goesBy 51 = .ok (.getfield 7, 3) := by decide +kernel
theorem dX10_goesBy_54 : decode cX10_goesBy 54 = .ok (.bipush 107, 2) := by decide +kernel
theorem dX10_goesBy_56 : decode cX10_goesBy 56 = .ok (.iload 4, 2) := by decide +kernel
theorem dX10_goesBy_58 : decode cX10_goesBy 58 = .ok (.iadd, 1) := by decide +kernel
theorem dX10_goesBy_59 : decode cX10_goesBy 59 = .ok (.aload_n 0, 1) := by decide +kernel
theorem dX10_goesBy_60 : decode cX10_goesBy 60 = .ok (.getfield 7, 3) := by decide +kernel
theorem dX10_goesBy_63 : decode cX10_goesBy 63 = .ok (.bipush 107, 2) := by decide +kernel
theorem dX10_goesBy_65 : decode cX10_goesBy 65 = .ok (.iload 4, 2) := by decide +kernel
theorem dX10_goesBy_67 : decode cX10_goesBy 67 = .ok (.iadd, 1) := by decide +kernel
theorem dX10_goesBy_68 : decode cX10_goesBy 68 = .ok (.iconst 5, 1) := by decide +kernel
theorem dX10_goesBy_69 : decode cX10_goesBy 69 = .ok (.isub, 1) := by decide +kernel
theorem dX10_goesBy_70 : decode cX10_goesBy 70 = .ok (.iaload, 1) := by decide +kernel
theorem dX10_goesBy_71 : decode cX10_goesBy 71 = .ok (.iastore, 1) := by decide +kernel
theorem dX10_goesBy_72 : decode cX10_goesBy 72 = .ok (.iinc 4 (-1), 3) := by decide +kernel
theorem dX10_goesBy_75 : decode cX10_goesBy 75 = .ok (.goto (-31), 3) := by decide +kernel
theorem dX10_goesBy_78 : decode cX10_goesBy 78 = .ok (.aload_n 0, 1) := by decide +kernel
theorem dX10_goesBy_79 : decode cX10_goesBy 79 = .ok (.getfield 7, 3) := by decide +kernel
theorem dX10_goesBy_82 : decode cX10_goesBy 82 = .ok (.bipush 107, 2) := by decide +kernel
theorem dX10_goesBy_84 : decode cX10_goesBy 84 = .ok (.aload_n 0, 1) := by decide +kernel
theorem dX10_goesBy_85 : decode cX10_goesBy 85 = .ok (.getfield 7, 3) := by decide +kernel
theorem dX10_goesBy_88 : decode cX10_goesBy 88 = .ok (.bipush 6, 2) := by decide +kernel
theorem dX10_goesBy_90 : decode cX10_goesBy 90 = .ok (.iaload, 1) := by decide +kernel
theorem dX10_goesBy_91 : decode cX10_goesBy 91 = .ok (.iastore, 1) := by decide +kernel
theorem dX10_goesBy_92 : decode cX10_goesBy 92 = .ok (.aload_n 0, 1) := by decide +kernel
theorem dX10_goesBy_93 : decode cX10_goesBy 93 = .ok (.getfield 7, 3) := by decide +kernel
theorem dX10_goesBy_96 : decode cX10_goesBy 96 = .ok (.bipush 108, 2) := by decide +kernel
theorem dX10_goesBy_98 : decode cX10_goesBy 98 = .ok (.iload_n 3, 1) := by decide +kernel
theorem dX10_goesBy_99 : decode cX10_goesBy 99 = .ok (.iastore, 1) := by decide +kernel
theorem dX10_goesBy_100 : decode cX10_goesBy 100 = .ok (.aload_n 0, 1) := by decide +kernel
theorem dX10_goesBy_101 : decode cX10_goesBy 101 = .ok (.getfield 7, 3) := by decide +kernel
theorem dX10_goesBy_104 : decode cX10_goesBy 104 = .ok (.bipush 109, 2) := by decide +kernel
theorem dX10_goesBy_106 : decode cX10_goesBy 106 = .ok (.aload_n 0, 1) := by decide +kernel
theorem dX10_goesBy_107 : decode cX10_goesBy 107 = .ok (.getfield 35, 3) := by decide +kernel
theorem dX10_goesBy_110 : decode cX10_goesBy 110 = .ok (.iload_n 3, 1) := by decide +kernel
theorem dX10_goesBy_111 : decode cX10_goesBy 111 = .ok (.iaload, 1) := by decide +kernel
theorem dX10_goesBy_112 : decode cX10_goesBy 112 = .ok (.iastore, 1) := by decide +kernel
theorem dX10_goesBy_113 : decode cX10_goesBy 113 = .ok (.aload_n 0, 1) := by decide +kernel
theorem dX10_goesBy_114 : decode cX10_goesBy 114 = .ok (.getfield 7, 3) := by decide +kernel
theorem dX10_goesBy_117 : decode cX10_goesBy 117 = .ok (.bipush 110, 2) := by decide +kernel
theorem dX10_goesBy_119 : decode cX10_goesBy 119 = .ok (.aload_n 0, 1) := by decide +kernel
theorem dX10_goesBy_120 : decode cX10_goesBy 120 = .ok (.getfield 32, 3) := by decide +kernel
theorem dX10_goesBy_123 : decode cX10_goesBy 123 = .ok (.bipush 10, 2) := by decide +kernel
theorem dX10_goesBy_125 : decode cX10_goesBy 125 = .ok (.aload_n 0, 1) := by decide +kernel
theorem dX10_goesBy_126 : decode cX10_goesBy 126 = .ok (.getfield 35, 3) := by decide +kernel
theorem dX10_goesBy_129 : decode cX10_goesBy 129 = .ok (.iload_n 3, 1) := by decide +kernel
theorem dX10_goesBy_130 : decode cX10_goesBy 130 = .ok (.iaload, 1) := by decide +kernel
theorem dX10_goesBy_131 : decode cX10_goesBy 131 = .ok (.imul, 1) := by decide +kernel
theorem dX10_goesBy_132 : decode cX10_goesBy 132 = .ok (.iload_n 3, 1) := by decide +kernel
theorem dX10_goesBy_133 : decode cX10_goesBy 133 = .ok (.iadd, 1) := by decide +kernel
theorem dX10_goesBy_134 : decode cX10_goesBy 134 = .ok (.iaload, 1) := by decide +kernel
theorem dX10_goesBy_135 : decode cX10_goesBy 135 = .ok (.iastore, 1) := by decide +kernel
theorem dX10_goesBy_136 : decode cX10_goesBy 136 = .ok (.aload_n 0, 1) := by decide +kernel
theorem dX10_goesBy_137 : decode cX10_goesBy 137 = .ok (.getfield 7, 3) := by decide +kernel
theorem dX10_goesBy_140 : decode cX10_goesBy 140 = .ok (.bipush 111, 2) := by decide +kernel
theorem dX10_goesBy_142 : decode cX10_goesBy 142 = .ok (.aload_n 0, 1) := by decide +kernel
theorem dX10_goesBy_143 : decode cX10_goesBy 143 = .ok (.getfield 38, 3) := by decide +kernel
theorem dX10_goesBy_146 : decode cX10_goesBy 146 = .ok (.iload_n 3, 1) := by decide +kernel
theorem dX10_goesBy_147 : decode cX10_goesBy 147 = .ok (.iaload, 1) := by decide +kernel
theorem dX10_goesBy_148 : decode cX10_goesBy 148 = .ok (.iastore, 1) := by decide +kernel
theorem dX10_goesBy_149 : decode cX10_goesBy 149 = .ok (.aload_n 0, 1) := by decide +kernel
theorem dX10_goesBy_150 : decode cX10_goesBy 150 = .ok (.getfield 7, 3) := by decide +kernel
theorem dX10_goesBy_153 : decode cX10_goesBy 153 = .ok (.bipush 8, 2) := by decide +kernel
theorem dX10_goesBy_155 : decode cX10_goesBy 155 = .ok (.bipush 60, 2) := by decide +kernel
theorem dX10_goesBy_157 : decode cX10_goesBy 157 = .ok (.aload_n 0, 1) := by decide +kernel
theorem dX10_goesBy_158 : decode cX10_goesBy 158 = .ok (.getfield 7, 3) := by decide +kernel
theorem dX10_goesBy_161 : decode cX10_goesBy 161 = .ok (.bipush 8, 2) := by decide +kernel
theorem dX10_goesBy_163 : decode cX10_goesBy 163 = .ok (.iaload, 1) := by decide +kernel
theorem dX10_goesBy_164 : decode cX10_goesBy 164 = .ok (.iconst 1, 1) := by decide +kernel
theorem dX10_goesBy_165 : decode cX10_goesBy 165 = .ok (.iadd, 1) := by decide +kernel
theorem dX10_goesBy_166 : decode cX10_goesBy 166 = .ok (.invokestatic 279, 3) := by decide +kernel
theorem dX10_goesBy_169 : decode cX10_goesBy 169 = .ok (.iastore, 1) := by decide +kernel
theorem dX10_goesBy_170 : decode cX10_goesBy 170 = .ok (.iinc 3 1, 3) := by decide +kernel
theorem dX10_goesBy_173 : decode cX10_goesBy 173 = .ok (.goto (-160), 3) := by decide +kernel
theorem dX10_goesBy_176 : decode cX10_goesBy 176 = .ok (.iconst 0, 1) := by decide +kernel
theorem dX10_goesBy_177 : decode cX10_goesBy 177 = .ok (.istore_n 3, 1) := by decide +kernel
theorem dX10_goesBy_178 : decode cX10_goesBy 178 = .ok (.iload_n 3, 1) := by decide +kernel
theorem dX10_goesBy_179 : decode cX10_goesBy 179 = .ok (.aload_n 0, 1) := by decide +kernel
theorem dX10_goesBy_180 : decode cX10_goesBy 180 = .ok (.getfield 7, 3) := by decide +kernel
theorem dX10_goesBy_183 : decode cX10_goesBy 183 = .ok (.iconst 3, 1) := by decide +kernel
theorem dX10_goesBy_184 : decode cX10_goesBy 184 = .ok (.iaload, 1) := by decide +kernel
theorem dX10_goesBy_185 : decode cX10_goesBy 185 = .ok (.if_icmp .ge 58, 3) := by decide +kernel
theorem dX10_goesBy_188 : decode cX10_goesBy 188 = .ok (.aload_n 0, 1) := by decide +kernel
theorem dX10_goesBy_189 : decode cX10_goesBy 189 = .ok (.iload_n 3, 1) := by decide +kernel
theorem dX10_goesBy_190 : decode cX10_goesBy 190 = .ok (.iconst 3, 1) := by decide +kernel
theorem dX10_goesBy_191 : decode cX10_goesBy 191 = .ok (.invokevirtual 70, 3) := by decide +kernel
theorem dX10_goesBy_194 : decode cX10_goesBy 194 = .ok (.iconst 1, 1) := by decide +kernel
theorem dX10_goesBy_195 : decode cX10_goesBy 195 = .ok (.if_icmp .ne 42, 3) := by decide +kernel
theorem dX10_goesBy_198 : decode cX10_goesBy 198 = .ok (.aload_n 0, 1) := by decide +kernel
theorem dX10_goesBy_199 : decode cX10_goesBy 199 = .ok (.getfield 7, 3) := by decide +kernel
theorem dX10_goesBy_202 : decode cX10_goesBy 202 = .ok (.bipush 12, 2) := by decide +kernel
theorem dX10_goesBy_204 : decode cX10_goesBy 204 = .ok (.iconst 5, 1) := by decide +kernel
theorem dX10_goesBy_205 : decode cX10_goesBy 205 = .ok (.iload_n 3, 1) := by decide +kernel
theorem dX10_goesBy_206 : decode cX10_goesBy 206 = .ok (.imul, 1) := by decide +kernel
theorem dX10_goesBy_207 : decode cX10_goesBy 207 = .ok (.iadd, 1) := by decide +kernel
theorem dX10_goesBy_208 : decode cX10_goesBy 208 = .ok (.iconst 4, 1) := by decide +kernel
theorem dX10_goesBy_209 : decode cX10_goesBy 209 = .ok (.iadd, 1) := by decide +kernel
theorem dX10_goesBy_210 : decode cX10_goesBy 210 = .ok (.aload_n 0, 1) := by decide +kernel
theorem dX10_goesBy_211 : decode cX10_goesBy 211 = .ok (.getfield 41, 3) := by decide +kernel
theorem dX10_goesBy_214 : decode cX10_goesBy 214 = .ok (.iload_n 3, 1) := by decide +kernel
theorem dX10_goesBy_215 : decode cX10_goesBy 215 = .ok (.iaload, 1) := by decide +kernel
theorem dX10_goesBy_216 : decode cX10_goesBy 216 = .ok (.ifCond .le 7, 3) := by decide +kernel
theorem dX10_goesBy_219 : decode cX10_goesBy 219 = .ok (.iconst 0, 1) := by decide +kernel
theorem dX10_goesBy_220 : decode cX10_goesBy 220 = .ok (.goto 16, 3) := by decide +kernel
theorem dX10_goesBy_223 : decode cX10_goesBy 223 = .ok (.bipush 99, 2) := by decide +kernel
theorem dX10_goesBy_225 : decode cX10_goesBy 225 = .ok (.aload_n 0, 1) := by decide +kernel
theorem dX10_goesBy_226 : decode cX10_goesBy 226 = .ok (.iload_n 3, 1) := by decide +kernel
theorem dX10_goesBy_227 : decode cX10_goesBy 227 = .ok (.iconst 4, 1) := by decide +kernel
theorem dX10_goesBy_228 : decode cX10_goesBy 228 = .ok (.invokevirtual 70, 3) := by decide +kernel
theorem dX10_goesBy_231 : decode cX10_goesBy 231 = .ok (.iconst 1, 1) := by decide +kernel
theorem dX10_goesBy_232 : decode cX10_goesBy 232 = .ok (.iadd, 1) := by decide +kernel
theorem dX10_goesBy_233 : decode cX10_goesBy 233 = .ok (.invokestatic 279, 3) := by decide +kernel
theorem dX10_goesBy_236 : decode cX10_goesBy 236 = .ok (.iastore, 1) := by decide +kernel
theorem dX10_goesBy_237 : decode cX10_goesBy 237 = .ok (.iinc 3 1, 3) := by decide +kernel
theorem dX10_goesBy_240 : decode cX10_goesBy 240 = .ok (.goto (-62), 3) := by decide +kernel
theorem dX10_goesBy_243 : decode cX10_goesBy 243 = .ok (.aload_n 0, 1) := by decide +kernel
theorem dX10_goesBy_244 : decode cX10_goesBy 244 = .ok (.getfield 7, 3) := by decide +kernel
theorem dX10_goesBy_247 : decode cX10_goesBy 247 = .ok (.bipush 7, 2) := by decide +kernel
theorem dX10_goesBy_249 : decode cX10_goesBy 249 = .ok (.dup2, 1) := by decide +kernel
theorem dX10_goesBy_250 : decode cX10_goesBy 250 = .ok (.iaload, 1) := by decide +kernel
theorem dX10_goesBy_251 : decode cX10_goesBy 251 = .ok (.iload_n 2, 1) := by decide +kernel
theorem dX10_goesBy_252 : decode cX10_goesBy 252 = .ok (.iadd, 1) := by decide +kernel
theorem dX10_goesBy_253 : decode cX10_goesBy 253 = .ok (.iastore, 1) := by decide +kernel
theorem dX10_goesBy_254 : decode cX10_goesBy 254 = .ok (.aload_n 0, 1) := by decide +kernel
theorem dX10_goesBy_255 : decode cX10_goesBy 255 = .ok (.getfield 7, 3) := by decide +kernel
theorem dX10_goesBy_258 : decode cX10_goesBy 258 = .ok (.bipush 6, 2) := by decide +kernel
theorem dX10_goesBy_260 : decode cX10_goesBy 260 = .ok (.dup2, 1) := by decide +kernel
theorem dX10_goesBy_261 : decode cX10_goesBy 261 = .ok (.iaload, 1) := by decide +kernel
theorem dX10_goesBy_262 : decode cX10_goesBy 262 = .ok (.iconst 1, 1) := by decide +kernel
theorem dX10_goesBy_263 : decode cX10_goesBy 263 = .ok (.iadd, 1) := by decide +kernel
theorem dX10_goesBy_264 : decode cX10_goesBy 264 = .ok (.iastore, 1) := by decide +kernel
theorem dX10_goesBy_265 : decode cX10_goesBy 265 = .ok (.iload_n 2, 1) := by decide +kernel
theorem dX10_goesBy_266 : decode cX10_goesBy 266 = .ok (.ireturn, 1) := by decide +kernel
theorem dX10_goes_0 : decode cX10_goes 0 = .ok (.iconst 0, 1) := by decide +kernel
theorem dX10_goes_1 : decode cX10_goes 1 = .ok (.istore_n 2, 1) := by decide +kernel
theorem dX10_goes_2 : decode cX10_goes 2 = .ok (.iconst 0, 1) := by decide +kernel
theorem dX10_goes_3 : decode cX10_goes 3 = .ok (.istore_n 3, 1) := by decide +kernel
theorem dX10_goes_4 : decode cX10_goes 4 = .ok (.iload_n 3, 1) := by decide +kernel
theorem dX10_goes_5 : decode cX10_goes 5 = .ok (.iload_n 1, 1) := by decide +kernel
theorem dX10_goes_6 : decode cX10_goes 6 = .ok (.if_icmp .ge 17, 3) := by decide +kernel
theorem dX10_goes_9 : decode cX10_goes 9 = .ok (.iload_n 2, 1) := by decide +kernel
theorem dX10_goes_10 : decode cX10_goes 10 = .ok (.aload_n 0, 1) := by decide +kernel
theorem dX10_goes_11 : decode cX10_goes 11 = .ok (.iconst 1, 1) := by decide +kernel
theorem dX10_goes_12 : decode cX10_goes 12 = .ok (.invokevirtual 282, 3) := by decide +kernel
theorem dX10_goes_15 : decode cX10_goes 15 = .ok (.iadd, 1) := by decide +kernel
theorem dX10_goes_16 : decode cX10_goes 16 = .ok (.istore_n 2, 1) := by decide +kernel
theorem dX10_goes_17 : decode cX10_goes 17 = .ok (.iinc 3 1, 3) := by decide +kernel
theorem dX10_goes_20 : decode cX10_goes 20 = .ok (.goto (-16), 3) := by decide +kernel
theorem dX10_goes_23 : decode cX10_goes 23 = .ok (.iload_n 2, 1) := by decide +kernel
theorem dX10_goes_24 : decode cX10_goes 24 = .ok (.ireturn, 1) := by decide +kernel
theorem dX10_tomorrow_0 : decode cX10_tomorrow 0 = .ok (.aload_n 0, 1) := by decide +kernel
theorem dX10_tomorrow_1 : decode cX10_tomorrow 1 = .ok (.invokevirtual 272, 3) := by decide +kernel
theorem dX10_tomorrow_4 : decode cX10_tomorrow 4 = .ok (.aload_n 0, 1) := by decide +kernel
theorem dX10_tomorrow_5 : decode cX10_tomorrow 5 = .ok (.iconst 0, 1) := by decide +kernel
theorem dX10_tomorrow_6 : decode cX10_tomorrow 6 = .ok (.invokevirtual 275, 3) := by decide +kernel
theorem dX10_tomorrow_9 : decode cX10_tomorrow 9 = .ok (.return_, 1) := by decide +kernel
theorem dX10_hadBy_0 : decode cX10_hadBy 0 = .ok (.iconst 0, 1) := by decide +kernel
theorem dX10_hadBy_1 : decode cX10_hadBy 1 = .ok (.istore_n 2, 1) := by decide +kernel
theorem dX10_hadBy_2 : decode cX10_hadBy 2 = .ok (.iconst 0, 1) := by decide +kernel
theorem dX10_hadBy_3 : decode cX10_hadBy 3 = .ok (.istore_n 3, 1) := by decide +kernel
theorem dX10_hadBy_4 : decode cX10_hadBy 4 = .ok (.iload_n 3, 1) := by decide +kernel
theorem dX10_hadBy_5 : decode cX10_hadBy 5 = .ok (.aload_n 0, 1) := by decide +kernel
theorem dX10_hadBy_6 : decode cX10_hadBy 6 = .ok (.getfield 7, 3) := by decide +kernel
theorem dX10_hadBy_9 : decode cX10_hadBy 9 = .ok (.iconst 4, 1) := by decide +kernel
theorem dX10_hadBy_10 : decode cX10_hadBy 10 = .ok (.iaload, 1) := by decide +kernel
theorem dX10_hadBy_11 : decode cX10_hadBy 11 = .ok (.if_icmp .ge 29, 3) := by decide +kernel
theorem dX10_hadBy_14 : decode cX10_hadBy 14 = .ok (.iload_n 2, 1) := by decide +kernel
theorem dX10_hadBy_15 : decode cX10_hadBy 15 = .ok (.aload_n 0, 1) := by decide +kernel
theorem dX10_hadBy_16 : decode cX10_hadBy 16 = .ok (.getfield 35, 3) := by decide +kernel
theorem dX10_hadBy_19 : decode cX10_hadBy 19 = .ok (.iload_n 3, 1) := by decide +kernel
theorem dX10_hadBy_20 : decode cX10_hadBy 20 = .ok (.iaload, 1) := by decide +kernel
theorem dX10_hadBy_21 : decode cX10_hadBy 21 = .ok (.iload_n 1, 1) := by decide +kernel
theorem dX10_hadBy_22 : decode cX10_hadBy 22 = .ok (.if_icmp .ne 9, 3) := by decide +kernel
theorem dX10_hadBy_25 : decode cX10_hadBy 25 = .ok (.iconst 1, 1) := by decide +kernel
theorem dX10_hadBy_26 : decode cX10_hadBy 26 = .ok (.iload_n 3, 1) := by decide +kernel
theorem dX10_hadBy_27 : decode cX10_hadBy 27 = .ok (.ishl, 1) := by decide +kernel
theorem dX10_hadBy_28 : decode cX10_hadBy 28 = .ok (.goto 4, 3) := by decide +kernel
theorem dX10_hadBy_31 : decode cX10_hadBy 31 = .ok (.iconst 0, 1) := by decide +kernel
theorem dX10_hadBy_32 : decode cX10_hadBy 32 = .ok (.ior, 1) := by decide +kernel
theorem dX10_hadBy_33 : decode cX10_hadBy 33 = .ok (.istore_n 2, 1) := by decide +kernel
theorem dX10_hadBy_34 : decode cX10_hadBy 34 = .ok (.iinc 3 1, 3) := by decide +kernel
theorem dX10_hadBy_37 : decode cX10_hadBy 37 = .ok (.goto (-33), 3) := by decide +kernel
theorem dX10_hadBy_40 : decode cX10_hadBy 40 = .ok (.iload_n 2, 1) := by decide +kernel
theorem dX10_hadBy_41 : decode cX10_hadBy 41 = .ok (.ireturn, 1) := by decide +kernel
theorem dX10_hadNow_0 : decode cX10_hadNow 0 = .ok (.iconst 0, 1) := by decide +kernel
theorem dX10_hadNow_1 : decode cX10_hadNow 1 = .ok (.istore_n 1, 1) := by decide +kernel
theorem dX10_hadNow_2 : decode cX10_hadNow 2 = .ok (.iconst 0, 1) := by decide +kernel
theorem dX10_hadNow_3 : decode cX10_hadNow 3 = .ok (.istore_n 2, 1) := by decide +kernel
theorem dX10_hadNow_4 : decode cX10_hadNow 4 = .ok (.iload_n 2, 1) := by decide +kernel
theorem dX10_hadNow_5 : decode cX10_hadNow 5 = .ok (.aload_n 0, 1) := by decide +kernel
theorem dX10_hadNow_6 : decode cX10_hadNow 6 = .ok (.getfield 7, 3) := by decide +kernel
theorem dX10_hadNow_9 : decode cX10_hadNow 9 = .ok (.iconst 4, 1) := by decide +kernel
theorem dX10_hadNow_10 : decode cX10_hadNow 10 = .ok (.iaload, 1) := by decide +kernel
theorem dX10_hadNow_11 : decode cX10_hadNow 11 = .ok (.if_icmp .ge 29, 3) := by decide +kernel
theorem dX10_hadNow_14 : decode cX10_hadNow 14 = .ok (.iload_n 1, 1) := by decide +kernel
theorem dX10_hadNow_15 : decode cX10_hadNow 15 = .ok (.aload_n 0, 1) := by decide +kernel
theorem dX10_hadNow_16 : decode cX10_hadNow 16 = .ok (.getfield 35, 3) := by decide +kernel
theorem dX10_hadNow_19 : decode cX10_hadNow 19 = .ok (.iload_n 2, 1) := by decide +kernel
theorem dX10_hadNow_20 : decode cX10_hadNow 20 = .ok (.iaload, 1) := by decide +kernel
theorem dX10_hadNow_21 : decode cX10_hadNow 21 = .ok (.iconst (-1), 1) := by decide +kernel
theorem dX10_hadNow_22 : decode cX10_hadNow 22 = .ok (.if_icmp .eq 9, 3) := by decide +kernel
theorem dX10_hadNow_25 : decode cX10_hadNow 25 = .ok (.iconst 1, 1) := by decide +kernel
theorem dX10_hadNow_26 : decode cX10_hadNow 26 = .ok (.iload_n 2, 1) := by decide +kernel
theorem dX10_hadNow_27 : decode cX10_hadNow 27 = .ok (.ishl, 1) := by decide +kernel
theorem dX10_hadNow_28 : decode cX10_hadNow 28 = .ok (.goto 4, 3) := by decide +kernel
theorem dX10_hadNow_31 : decode cX10_hadNow 31 = .ok (.iconst 0, 1) := by decide +kernel
theorem dX10_hadNow_32 : decode cX10_hadNow 32 = .ok (.ior, 1) := by decide +kernel
theorem dX10_hadNow_33 : decode cX10_hadNow 33 = .ok (.istore_n 1, 1) := by decide +kernel
theorem dX10_hadNow_34 : decode cX10_hadNow 34 = .ok (.iinc 2 1, 3) := by decide +kernel
theorem dX10_hadNow_37 : decode cX10_hadNow 37 = .ok (.goto (-33), 3) := by decide +kernel
theorem dX10_hadNow_40 : decode cX10_hadNow 40 = .ok (.iload_n 1, 1) := by decide +kernel
theorem dX10_hadNow_41 : decode cX10_hadNow 41 = .ok (.ireturn, 1) := by decide +kernel
theorem dX10_ringsFor_0 : decode cX10_ringsFor 0 = .ok (.iconst 0, 1) := by decide +kernel
theorem dX10_ringsFor_1 : decode cX10_ringsFor 1 = .ok (.istore_n 2, 1) := by decide +kernel
theorem dX10_ringsFor_2 : decode cX10_ringsFor 2 = .ok (.iconst 0, 1) := by decide +kernel
theorem dX10_ringsFor_3 : decode cX10_ringsFor 3 = .ok (.istore_n 3, 1) := by decide +kernel
theorem dX10_ringsFor_4 : decode cX10_ringsFor 4 = .ok (.iload_n 3, 1) := by decide +kernel
theorem dX10_ringsFor_5 : decode cX10_ringsFor 5 = .ok (.aload_n 0, 1) := by decide +kernel
theorem dX10_ringsFor_6 : decode cX10_ringsFor 6 = .ok (.getfield 7, 3) := by decide +kernel
theorem dX10_ringsFor_9 : decode cX10_ringsFor 9 = .ok (.iconst 4, 1) := by decide +kernel
theorem dX10_ringsFor_10 : decode cX10_ringsFor 10 = .ok (.iaload, 1) := by decide +kernel
theorem dX10_ringsFor_11 : decode cX10_ringsFor 11 = .ok (.if_icmp .ge 28, 3) := by decide +kernel
theorem dX10_ringsFor_14 : decode cX10_ringsFor 14 = .ok (.iload_n 2, 1) := by decide +kernel
theorem dX10_ringsFor_15 : decode cX10_ringsFor 15 = .ok (.aload_n 0, 1) := by decide +kernel
theorem dX10_ringsFor_16 : decode cX10_ringsFor 16 = .ok (.iload_n 1, 1) := by decide +kernel
theorem dX10_ringsFor_17 : decode cX10_ringsFor 17 = .ok (.iload_n 3, 1) := by decide +kernel
theorem dX10_ringsFor_18 : decode cX10_ringsFor 18 = .ok (.invokevirtual 259, 3) := by decide +kernel
theorem dX10_ringsFor_21 : decode cX10_ringsFor 21 = .ok (.ifCond .eq 9, 3) := by decide +kernel
theorem dX10_ringsFor_24 : decode cX10_ringsFor 24 = .ok (.iconst 1, 1) := by decide +kernel
theorem dX10_ringsFor_25 : decode cX10_ringsFor 25 = .ok (.iload_n 3, 1) := by decide +kernel
theorem dX10_ringsFor_26 : decode cX10_ringsFor 26 = .ok (.ishl, 1) := by decide +kernel
theorem dX10_ringsFor_27 : decode cX10_ringsFor 27 = .ok (.goto 4, 3) := by decide +kernel
theorem dX10_ringsFor_30 : decode cX10_ringsFor 30 = .ok (.iconst 0, 1) := by decide +kernel
theorem dX10_ringsFor_31 : decode cX10_ringsFor 31 = .ok (.ior, 1) := by decide +kernel
theorem dX10_ringsFor_32 : decode cX10_ringsFor 32 = .ok (.istore_n 2, 1) := by decide +kernel
theorem dX10_ringsFor_33 : decode cX10_ringsFor 33 = .ok (.iinc 3 1, 3) := by decide +kernel
theorem dX10_ringsFor_36 : decode cX10_ringsFor 36 = .ok (.goto (-32), 3) := by decide +kernel
theorem dX10_ringsFor_39 : decode cX10_ringsFor 39 = .ok (.iload_n 2, 1) := by decide +kernel
theorem dX10_ringsFor_40 : decode cX10_ringsFor 40 = .ok (.ireturn, 1) := by decide +kernel
theorem dX10_envy_0 : decode cX10_envy 0 = .ok (.iconst (-1), 1) := by decide +kernel
theorem dX10_envy_1 : decode cX10_envy 1 = .ok (.istore_n 2, 1) := by decide +kernel
theorem dX10_envy_2 : decode cX10_envy 2 = .ok (.iconst 0, 1) := by decide +kernel
theorem dX10_envy_3 : decode cX10_envy 3 = .ok (.istore_n 3, 1) := by decide +kernel
theorem dX10_envy_4 : decode cX10_envy 4 = .ok (.iload_n 3, 1) := by decide +kernel
theorem dX10_envy_5 : decode cX10_envy 5 = .ok (.aload_n 0, 1) := by decide +kernel
theorem dX10_envy_6 : decode cX10_envy 6 = .ok (.getfield 7, 3) := by decide +kernel
theorem dX10_envy_9 : decode cX10_envy 9 = .ok (.iconst 4, 1) := by decide +kernel
theorem dX10_envy_10 : decode cX10_envy 10 = .ok (.iaload, 1) := by decide +kernel
theorem dX10_envy_11 : decode cX10_envy 11 = .ok (.if_icmp .ge 35, 3) := by decide +kernel
theorem dX10_envy_14 : decode cX10_envy 14 = .ok (.aload_n 0, 1) := by decide +kernel
theorem dX10_envy_15 : decode cX10_envy 15 = .ok (.getfield 35, 3) := by decide +kernel
theorem dX10_envy_18 : decode cX10_envy 18 = .ok (.iload_n 3, 1) := by decide +kernel
theorem dX10_envy_19 : decode cX10_envy 19 = .ok (.iaload, 1) := by decide +kernel
theorem dX10_envy_20 : decode cX10_envy 20 = .ok (.iload_n 1, 1) := by decide +kernel
theorem dX10_envy_21 : decode cX10_envy 21 = .ok (.if_icmp .ne 19, 3) := by decide +kernel
theorem dX10_envy_24 : decode cX10_envy 24 = .ok (.iload_n 2, 1) := by decide +kernel
theorem dX10_envy_25 : decode cX10_envy 25 = .ok (.aload_n 0, 1) := by decide +kernel
theorem dX10_envy_26 : decode cX10_envy 26 = .ok (.getfield 32, 3) := by decide +kernel
theorem dX10_envy_29 : decode cX10_envy 29 = .ok (.bipush 10, 2) := by decide +kernel
theorem dX10_envy_31 : decode cX10_envy 31 = .ok (.iload_n 1, 1) := by decide +kernel
theorem dX10_envy_32 : decode cX10_envy 32 = .ok (.imul, 1) := by decide +kernel
theorem dX10_envy_33 : decode cX10_envy 33 = .ok (.iload_n 3, 1) := by decide +kernel
theorem dX10_envy_34 : decode cX10_envy 34 = .ok (.iadd, 1) := by decide +kernel
theorem dX10_envy_35 : decode cX10_envy 35 = .ok (.iaload, 1) := by decide +kernel
theorem dX10_envy_36 : decode cX10_envy 36 = .ok (.invokestatic 249, 3) := by decide +kernel
theorem dX10_envy_39 : decode cX10_envy 39 = .ok (.istore_n 2, 1) := by decide +kernel
theorem dX10_envy_40 : decode cX10_envy 40 = .ok (.iinc 3 1, 3) := by decide +kernel
theorem dX10_envy_43 : decode cX10_envy 43 = .ok (.goto (-39), 3) := by decide +kernel
theorem dX10_envy_46 : decode cX10_envy 46 = .ok (.iconst 0, 1) := by decide +kernel
theorem dX10_envy_47 : decode cX10_envy 47 = .ok (.istore_n 3, 1) := by decide +kernel
theorem dX10_envy_48 : decode cX10_envy 48 = .ok (.iconst 0, 1) := by decide +kernel
theorem dX10_envy_49 : decode cX10_envy 49 = .ok (.istore 4, 2) := by decide +kernel
theorem dX10_envy_51 : decode cX10_envy 51 = .ok (.iload 4, 2) := by decide +kernel
theorem dX10_envy_53 : decode cX10_envy 53 = .ok (.aload_n 0, 1) := by decide +kernel
theorem dX10_envy_54 : decode cX10_envy 54 = .ok (.getfield 7, 3) := by decide +kernel
theorem dX10_envy_57 : decode cX10_envy 57 = .ok (.iconst 4, 1) := by decide +kernel
theorem dX10_envy_58 : decode cX10_envy 58 = .ok (.iaload, 1) := by decide +kernel
theorem dX10_envy_59 : decode cX10_envy 59 = .ok (.if_icmp .ge 68, 3) := by decide +kernel
theorem dX10_envy_62 : decode cX10_envy 62 = .ok (.iload_n 3, 1) := by decide +kernel
theorem dX10_envy_63 : decode cX10_envy 63 = .ok (.aload_n 0, 1) := by decide +kernel
theorem dX10_envy_64 : decode cX10_envy 64 = .ok (.getfield 35, 3) := by decide +kernel
theorem dX10_envy_67 : decode cX10_envy 67 = .ok (.iload 4, 2) := by decide +kernel
theorem dX10_envy_69 : decode cX10_envy 69 = .ok (.iaload, 1) := by decide +kernel
theorem dX10_envy_70 : decode cX10_envy 70 = .ok (.iconst (-1), 1) := by decide +kernel
theorem dX10_envy_71 : decode cX10_envy 71 = .ok (.if_icmp .eq 47, 3) := by decide +kernel
theorem dX10_envy_74 : decode cX10_envy 74 = .ok (.aload_n 0, 1) := by decide +kernel
theorem dX10_envy_75 : decode cX10_envy 75 = .ok (.getfield 35, 3) := by decide +kernel
theorem dX10_envy_78 : decode cX10_envy 78 = .ok (.iload 4, 2) := by decide +kernel
theorem dX10_envy_80 : decode cX10_envy 80 = .ok (.iaload, 1) := by decide +kernel
theorem dX10_envy_81 : decode cX10_envy 81 = .ok (.iload_n 1, 1) := by decide +kernel
theorem dX10_envy_82 : decode cX10_envy 82 = .ok (.if_icmp .eq 36, 3) := by decide +kernel
theorem dX10_envy_85 : decode cX10_envy 85 = .ok (.aload_n 0, 1) := by decide +kernel
theorem dX10_envy_86 : decode cX10_envy 86 = .ok (.iload_n 1, 1) := by decide +kernel
theorem dX10_envy_87 : decode cX10_envy 87 = .ok (.iload 4, 2) := by decide +kernel
theorem dX10_envy_89 : decode cX10_envy 89 = .ok (.invokevirtual 259, 3) := by decide +kernel
theorem dX10_envy_92 : decode cX10_envy 92 = .ok (.ifCond .eq 26, 3) := by decide +kernel
theorem dX10_envy_95 : decode cX10_envy 95 = .ok (.aload_n 0, 1) := by decide +kernel
theorem dX10_envy_96 : decode cX10_envy 96 = .ok (.getfield 32, 3) := by decide +kernel
theorem dX10_envy_99 : decode cX10_envy 99 = .ok (.bipush 10, 2) := by decide +kernel
theorem dX10_envy_101 : decode cX10_envy 101 = .ok (.iload_n 1, 1) := by decide +kernel
theorem dX10_envy_102 : decode cX10_envy 102 = .ok (.imul, 1) := by decide +kernel
theorem dX10_envy_103 : decode cX10_envy 103 = .ok (.iload 4, 2) := by decide +kernel
theorem dX10_envy_105 : decode cX10_envy 105 = .ok (.iadd, 1) := by decide +kernel
theorem dX10_envy_106 : decode cX10_envy 106 = .ok (.iaload, 1) := by decide +kernel
theorem dX10_envy_107 : decode cX10_envy 107 = .ok (.iload_n 2, 1) := by decide +kernel
theorem dX10_envy_108 : decode cX10_envy 108 = .ok (.if_icmp .le 10, 3) := by decide +kernel
theorem dX10_envy_111 : decode cX10_envy 111 = .ok (.iconst 1, 1) := by decide +kernel
theorem dX10_envy_112 : decode cX10_envy 112 = .ok (.iload 4, 2) := by decide +kernel
theorem dX10_envy_114 : decode cX10_envy 114 = .ok (.ishl, 1) := by decide +kernel
theorem dX10_envy_115 : decode cX10_envy 115 = .ok (.goto 4, 3) := by decide +kernel
theorem dX10_envy_118 : decode cX10_envy 118 = .ok (.iconst 0, 1) := by decide +kernel
theorem dX10_envy_119 : decode cX10_envy 119 = .ok (.ior, 1) := by decide +kernel
theorem dX10_envy_120 : decode cX10_envy 120 = .ok (.istore_n 3, 1) := by decide +kernel
theorem dX10_envy_121 : decode cX10_envy 121 = .ok (.iinc 4 1, 3) := by decide +kernel
theorem dX10_envy_124 : decode cX10_envy 124 = .ok (.goto (-73), 3) := by decide +kernel
theorem dX10_envy_127 : decode cX10_envy 127 = .ok (.iload_n 3, 1) := by decide +kernel
theorem dX10_envy_128 : decode cX10_envy 128 = .ok (.ireturn, 1) := by decide +kernel
theorem dX10_thing_0 : decode cX10_thing 0 = .ok (.aload_n 0, 1) := by decide +kernel
theorem dX10_thing_1 : decode cX10_thing 1 = .ok (.aload_n 0, 1) := by decide +kernel
theorem dX10_thing_2 : decode cX10_thing 2 = .ok (.iload_n 1, 1) := by decide +kernel
theorem dX10_thing_3 : decode cX10_thing 3 = .ok (.invokevirtual 285, 3) := by decide +kernel
theorem dX10_thing_6 : decode cX10_thing 6 = .ok (.ifCond .ne 7, 3) := by decide +kernel
theorem dX10_thing_9 : decode cX10_thing 9 = .ok (.iconst 1, 1) := by decide +kernel
theorem dX10_thing_10 : decode cX10_thing 10 = .ok (.goto 18, 3) := by decide +kernel
theorem dX10_thing_13 : decode cX10_thing 13 = .ok (.iload_n 2, 1) := by decide +kernel
theorem dX10_thing_14 : decode cX10_thing 14 = .ok (.iconst 0, 1) := by decide +kernel
theorem dX10_thing_15 : decode cX10_thing 15 = .ok (.bipush 7, 2) := by decide +kernel
theorem dX10_thing_17 : decode cX10_thing 17 = .ok (.invokestatic 66, 3) := by decide +kernel
theorem dX10_thing_20 : decode cX10_thing 20 = .ok (.ifCond .ne 7, 3) := by decide +kernel
theorem dX10_thing_23 : decode cX10_thing 23 = .ok (.iconst 2, 1) := by decide +kernel
theorem dX10_thing_24 : decode cX10_thing 24 = .ok (.goto 4, 3) := by decide +kernel
theorem dX10_thing_27 : decode cX10_thing 27 = .ok (.iconst 0, 1) := by decide +kernel
theorem dX10_thing_28 : decode cX10_thing 28 = .ok (.putfield 63, 3) := by decide +kernel
theorem dX10_thing_31 : decode cX10_thing 31 = .ok (.aload_n 0, 1) := by decide +kernel
theorem dX10_thing_32 : decode cX10_thing 32 = .ok (.getfield 63, 3) := by decide +kernel
theorem dX10_thing_35 : decode cX10_thing 35 = .ok (.ifCond .le 5, 3) := by decide +kernel
theorem dX10_thing_38 : decode cX10_thing 38 = .ok (.iconst 0, 1) := by decide +kernel
theorem dX10_thing_39 : decode cX10_thing 39 = .ok (.ireturn, 1) := by decide +kernel
theorem dX10_thing_40 : decode cX10_thing 40 = .ok (.iload_n 2, 1) := by decide +kernel
theorem dX10_thing_41 : decode cX10_thing 41 = .ok (.iconst 5, 1) := by decide +kernel
theorem dX10_thing_42 : decode cX10_thing 42 = .ok (.if_icmp .ge 10, 3) := by decide +kernel
theorem dX10_thing_45 : decode cX10_thing 45 = .ok (.aload_n 0, 1) := by decide +kernel
theorem dX10_thing_46 : decode cX10_thing 46 = .ok (.iload_n 1, 1) := by decide +kernel
theorem dX10_thing_47 : decode cX10_thing 47 = .ok (.iload_n 2, 1) := by decide +kernel
theorem dX10_thing_48 : decode cX10_thing 48 = .ok (.invokevirtual 70, 3) := by decide +kernel
theorem dX10_thing_51 : decode cX10_thing 51 = .ok (.ireturn, 1) := by decide +kernel
theorem dX10_thing_52 : decode cX10_thing 52 = .ok (.aload_n 0, 1) := by decide +kernel
theorem dX10_thing_53 : decode cX10_thing 53 = .ok (.invokevirtual 288, 3) := by decide +kernel
theorem dX10_thing_56 : decode cX10_thing 56 = .ok (.iload_n 2, 1) := by decide +kernel
theorem dX10_thing_57 : decode cX10_thing 57 = .ok (.iconst 5, 1) := by decide +kernel
theorem dX10_thing_58 : decode cX10_thing 58 = .ok (.if_icmp .ne 11, 3) := by decide +kernel
theorem dX10_thing_61 : decode cX10_thing 61 = .ok (.aload_n 0, 1) := by decide +kernel
theorem dX10_thing_62 : decode cX10_thing 62 = .ok (.iload_n 1, 1) := by decide +kernel
theorem dX10_thing_63 : decode cX10_thing 63 = .ok (.invokevirtual 291, 3) := by decide +kernel
theorem dX10_thing_66 : decode cX10_thing 66 = .ok (.goto 22, 3) := by decide +kernel
theorem dX10_thing_69 : decode cX10_thing 69 = .ok (.iload_n 2, 1) := by decide +kernel
theorem dX10_thing_70 : decode cX10_thing 70 = .ok (.bipush 6, 2) := by decide +kernel
theorem dX10_thing_72 : decode cX10_thing 72 = .ok (.if_icmp .ne 11, 3) := by decide +kernel
theorem dX10_thing_75 : decode cX10_thing 75 = .ok (.aload_n 0, 1) := by decide +kernel
theorem dX10_thing_76 : decode cX10_thing 76 = .ok (.iload_n 1, 1) := by decide +kernel
theorem dX10_thing_77 : decode cX10_thing 77 = .ok (.invokevirtual 294, 3) := by decide +kernel
theorem dX10_thing_80 : decode cX10_thing 80 = .ok (.goto 8, 3) := by decide +kernel
theorem dX10_thing_83 : decode cX10_thing 83 = .ok (.aload_n 0, 1) := by decide +kernel
theorem dX10_thing_84 : decode cX10_thing 84 = .ok (.iload_n 1, 1) := by decide +kernel
theorem dX10_thing_85 : decode cX10_thing 85 = .ok (.invokevirtual 297, 3) := by decide +kernel
theorem dX10_thing_88 : decode cX10_thing 88 = .ok (.ireturn, 1) := by decide +kernel
theorem dX10_ringing_0 : decode cX10_ringing 0 = .ok (.iconst 0, 1) := by decide +kernel
theorem dX10_ringing_1 : decode cX10_ringing 1 = .ok (.istore_n 2, 1) := by decide +kernel
theorem dX10_ringing_2 : decode cX10_ringing 2 = .ok (.iconst 0, 1) := by decide +kernel
theorem dX10_ringing_3 : decode cX10_ringing 3 = .ok (.istore_n 3, 1) := by decide +kernel
theorem dX10_ringing_4 : decode cX10_ringing 4 = .ok (.iload_n 3, 1) := by decide +kernel
theorem dX10_ringing_5 : decode cX10_ringing 5 = .ok (.aload_n 0, 1) := by decide +kernel
theorem dX10_ringing_6 : decode cX10_ringing 6 = .ok (.getfield 7, 3) := by decide +kernel
theorem dX10_ringing_9 : decode cX10_ringing 9 = .ok (.iconst 3, 1) := by decide +kernel
theorem dX10_ringing_10 : decode cX10_ringing 10 = .ok (.iaload, 1) := by decide +kernel
theorem dX10_ringing_11 : decode cX10_ringing 11 = .ok (.if_icmp .ge 28, 3) := by decide +kernel
theorem dX10_ringing_14 : decode cX10_ringing 14 = .ok (.iload_n 2, 1) := by decide +kernel
theorem dX10_ringing_15 : decode cX10_ringing 15 = .ok (.aload_n 0, 1) := by decide +kernel
theorem dX10_ringing_16 : decode cX10_ringing 16 = .ok (.iload_n 3, 1) := by decide +kernel
theorem dX10_ringing_17 : decode cX10_ringing 17 = .ok (.iload_n 1, 1) := by decide +kernel
theorem dX10_ringing_18 : decode cX10_ringing 18 = .ok (.invokevirtual 259, 3) := by decide +kernel
theorem dX10_ringing_21 : decode cX10_ringing 21 = .ok (.ifCond .eq 9, 3) := by decide +kernel
theorem dX10_ringing_24 : decode cX10_ringing 24 = .ok (.iconst 1, 1) := by decide +kernel
theorem dX10_ringing_25 : decode cX10_ringing 25 = .ok (.iload_n 3, 1) := by decide +kernel
theorem dX10_ringing_26 : decode cX10_ringing 26 = .ok (.ishl, 1) := by decide +kernel
theorem dX10_ringing_27 : decode cX10_ringing 27 = .ok (.goto 4, 3) := by decide +kernel
theorem dX10_ringing_30 : decode cX10_ringing 30 = .ok (.iconst 0, 1) := by decide +kernel
theorem dX10_ringing_31 : decode cX10_ringing 31 = .ok (.ior, 1) := by decide +kernel
theorem dX10_ringing_32 : decode cX10_ringing 32 = .ok (.istore_n 2, 1) := by decide +kernel
theorem dX10_ringing_33 : decode cX10_ringing 33 = .ok (.iinc 3 1, 3) := by decide +kernel
theorem dX10_ringing_36 : decode cX10_ringing 36 = .ok (.goto (-32), 3) := by decide +kernel
theorem dX10_ringing_39 : decode cX10_ringing 39 = .ok (.iload_n 2, 1) := by decide +kernel
theorem dX10_ringing_40 : decode cX10_ringing 40 = .ok (.ireturn, 1) := by decide +kernel
theorem dX10_visitor_0 : decode cX10_visitor 0 = .ok (.aload_n 0, 1) := by decide +kernel
theorem dX10_visitor_1 : decode cX10_visitor 1 = .ok (.aload_n 0, 1) := by decide +kernel
theorem dX10_visitor_2 : decode cX10_visitor 2 = .ok (.iload_n 1, 1) := by decide +kernel
theorem dX10_visitor_3 : decode cX10_visitor 3 = .ok (.invokevirtual 300, 3) := by decide +kernel
theorem dX10_visitor_6 : decode cX10_visitor 6 = .ok (.ifCond .ne 7, 3) := by decide +kernel
theorem dX10_visitor_9 : decode cX10_visitor 9 = .ok (.iconst 1, 1) := by decide +kernel
theorem dX10_visitor_10 : decode cX10_visitor 10 = .ok (.goto 18, 3) := by decide +kernel
theorem dX10_visitor_13 : decode cX10_visitor 13 = .ok (.iload_n 2, 1) := by decide +kernel
theorem dX10_visitor_14 : decode cX10_visitor 14 = .ok (.iconst 0, 1) := by decide +kernel
theorem dX10_visitor_15 : decode cX10_visitor 15 = .ok (.bipush 7, 2) := by decide +kernel
theorem dX10_visitor_17 : decode cX10_visitor 17 = .ok (.invokestatic 66, 3) := by decide +kernel
theorem dX10_visitor_20 : decode cX10_visitor 20 = .ok (.ifCond .ne 7, 3) := by decide +kernel
theorem dX10_visitor_23 : decode cX10_visitor 23 = .ok (.iconst 2, 1) := by decide +kernel
theorem dX10_visitor_24 : decode cX10_visitor 24 = .ok (.goto 4, 3) := by decide +kernel
theorem dX10_visitor_27 : decode cX10_visitor 27 = .ok (.iconst 0, 1) := by decide +kernel
theorem dX10_visitor_28 : decode cX10_visitor 28 = .ok (.putfield 63, 3) := by decide +kernel
theorem dX10_visitor_31 : decode cX10_visitor 31 = .ok (.aload_n 0, 1) := by decide +kernel
theorem dX10_visitor_32 : decode cX10_visitor 32 = .ok (.getfield 63, 3) := by decide +kernel
theorem dX10_visitor_35 : decode cX10_visitor 35 = .ok (.ifCond .le 5, 3) := by decide +kernel
theorem dX10_visitor_38 : decode cX10_visitor 38 = .ok (.iconst 0, 1) := by decide +kernel
theorem dX10_visitor_39 : decode cX10_visitor 39 = .ok (.ireturn, 1) := by decide +kernel
theorem dX10_visitor_40 : decode cX10_visitor 40 = .ok (.iload_n 2, 1) := by decide +kernel
theorem dX10_visitor_41 : decode cX10_visitor 41 = .ok (.iconst 5, 1) := by decide +kernel
theorem dX10_visitor_42 : decode cX10_visitor 42 = .ok (.if_icmp .ge 10, 3) := by decide +kernel
theorem dX10_visitor_45 : decode cX10_visitor 45 = .ok (.aload_n 0, 1) := by decide +kernel
theorem dX10_visitor_46 : decode cX10_visitor 46 = .ok (.iload_n 1, 1) := by decide +kernel
theorem dX10_visitor_47 : decode cX10_visitor 47 = .ok (.iload_n 2, 1) := by decide +kernel
theorem dX10_visitor_48 : decode cX10_visitor 48 = .ok (.invokevirtual 246, 3) := by decide +kernel
theorem dX10_visitor_51 : decode cX10_visitor 51 = .ok (.ireturn, 1) := by decide +kernel
theorem dX10_visitor_52 : decode cX10_visitor 52 = .ok (.aload_n 0, 1) := by decide +kernel
theorem dX10_visitor_53 : decode cX10_visitor 53 = .ok (.invokevirtual 288, 3) := by decide +kernel
theorem dX10_visitor_56 : decode cX10_visitor 56 = .ok (.iload_n 2, 1) := by decide +kernel
theorem dX10_visitor_57 : decode cX10_visitor 57 = .ok (.iconst 5, 1) := by decide +kernel
theorem dX10_visitor_58 : decode cX10_visitor 58 = .ok (.if_icmp .ne 11, 3) := by decide +kernel
theorem dX10_visitor_61 : decode cX10_visitor 61 = .ok (.aload_n 0, 1) := by decide +kernel
theorem dX10_visitor_62 : decode cX10_visitor 62 = .ok (.iload_n 1, 1) := by decide +kernel
theorem dX10_visitor_63 : decode cX10_visitor 63 = .ok (.invokevirtual 303, 3) := by decide +kernel
theorem dX10_visitor_66 : decode cX10_visitor 66 = .ok (.goto 24, 3) := by decide +kernel
theorem dX10_visitor_69 : decode cX10_visitor 69 = .ok (.iload_n 2, 1) := by decide +kernel
theorem dX10_visitor_70 : decode cX10_visitor 70 = .ok (.bipush 6, 2) := by decide +kernel
theorem dX10_visitor_72 : decode cX10_visitor 72 = .ok (.if_icmp .ne 12, 3) := by decide +kernel
theorem dX10_visitor_75 : decode cX10_visitor 75 = .ok (.aload_n 0, 1) := by decide +kernel
theorem dX10_visitor_76 : decode cX10_visitor 76 = .ok (.getfield 35, 3) := by decide +kernel
theorem dX10_visitor_79 : decode cX10_visitor 79 = .ok (.iload_n 1, 1) := by decide +kernel
theorem dX10_visitor_80 : decode cX10_visitor 80 = .ok (.iaload, 1) := by decide +kernel
theorem dX10_visitor_81 : decode cX10_visitor 81 = .ok (.goto 9, 3) := by decide +kernel
theorem dX10_visitor_84 : decode cX10_visitor 84 = .ok (.aload_n 0, 1) := by decide +kernel
theorem dX10_visitor_85 : decode cX10_visitor 85 = .ok (.getfield 38, 3) := by decide +kernel
theorem dX10_visitor_88 : decode cX10_visitor 88 = .ok (.iload_n 1, 1) := by decide +kernel
theorem dX10_visitor_89 : decode cX10_visitor 89 = .ok (.iaload, 1) := by decide +kernel
theorem dX10_visitor_90 : decode cX10_visitor 90 = .ok (.ireturn, 1) := by decide +kernel
theorem dX10_liking_0 : decode cX10_liking 0 = .ok (.aload_n 0, 1) := by decide +kernel
theorem dX10_liking_1 : decode cX10_liking 1 = .ok (.aload_n 0, 1) := by decide +kernel
theorem dX10_liking_2 : decode cX10_liking 2 = .ok (.iload_n 1, 1) := by decide +kernel
theorem dX10_liking_3 : decode cX10_liking 3 = .ok (.invokevirtual 285, 3) := by decide +kernel
theorem dX10_liking_6 : decode cX10_liking 6 = .ok (.ifCond .eq 11, 3) := by decide +kernel
theorem dX10_liking_9 : decode cX10_liking 9 = .ok (.aload_n 0, 1) := by decide +kernel
theorem dX10_liking_10 : decode cX10_liking 10 = .ok (.iload_n 2, 1) := by decide +kernel
theorem dX10_liking_11 : decode cX10_liking 11 = .ok (.invokevirtual 300, 3) := by decide +kernel
theorem dX10_liking_14 : decode cX10_liking 14 = .ok (.ifCond .ne 7, 3) := by decide +kernel
theorem dX10_liking_17 : decode cX10_liking 17 = .ok (.iconst 1, 1) := by decide +kernel
theorem dX10_liking_18 : decode cX10_liking 18 = .ok (.goto 4, 3) := by decide +kernel
theorem dX10_liking_21 : decode cX10_liking 21 = .ok (.iconst 0, 1) := by decide +kernel
theorem dX10_liking_22 : decode cX10_liking 22 = .ok (.putfield 63, 3) := by decide +kernel
theorem dX10_liking_25 : decode cX10_liking 25 = .ok (.aload_n 0, 1) := by decide +kernel
theorem dX10_liking_26 : decode cX10_liking 26 = .ok (.getfield 63, 3) := by decide +kernel
theorem dX10_liking_29 : decode cX10_liking 29 = .ok (.ifCond .le 7, 3) := by decide +kernel
theorem dX10_liking_32 : decode cX10_liking 32 = .ok (.iconst 0, 1) := by decide +kernel
theorem dX10_liking_33 : decode cX10_liking 33 = .ok (.goto 15, 3) := by decide +kernel
theorem dX10_liking_36 : decode cX10_liking 36 = .ok (.aload_n 0, 1) := by decide +kernel
theorem dX10_liking_37 : decode cX10_liking 37 = .ok (.iload_n 1, 1) := by decide +kernel
theorem dX10_liking_38 : decode cX10_liking 38 = .ok (.iload_n 2, 1) := by decide +kernel
theorem dX10_liking_39 : decode cX10_liking 39 = .ok (.aload_n 0, 1) := by decide +kernel
theorem dX10_liking_40 : decode cX10_liking 40 = .ok (.iload_n 2, 1) := by decide +kernel
theorem dX10_liking_41 : decode cX10_liking 41 = .ok (.iconst 4, 1) := by decide +kernel
theorem dX10_liking_42 : decode cX10_liking 42 = .ok (.invokevirtual 246, 3) := by decide +kernel
theorem dX10_liking_45 : decode cX10_liking 45 = .ok (.invokevirtual 252, 3) := by decide +kernel
theorem dX10_liking_48 : decode cX10_liking 48 = .ok (.ireturn, 1) := by decide +kernel
theorem dX10_remembers_0 : decode cX10_remembers 0 = .ok (.aload_n 0, 1) := by decide +kernel
theorem dX10_remembers_1 : decode cX10_remembers 1 = .ok (.getfield 184, 3) := by decide +kernel
theorem dX10_remembers_4 : decode cX10_remembers 4 = .ok (.bipush 12, 2) := by decide +kernel
theorem dX10_remembers_6 : decode cX10_remembers 6 = .ok (.if_icmp .ne 44, 3) := by decide +kernel
theorem dX10_remembers_9 : decode cX10_remembers 9 = .ok (.iconst 0, 1) := by decide +kernel
theorem dX10_remembers_10 : decode cX10_remembers 10 = .ok (.istore_n 1, 1) := by decide +kernel
theorem dX10_remembers_11 : decode cX10_remembers 11 = .ok (.iload_n 1, 1) := by decide +kernel
theorem dX10_remembers_12 : decode cX10_remembers 12 = .ok (.sipush 4477, 3) := by decide +kernel
theorem dX10_remembers_15 : decode cX10_remembers 15 = .ok (.if_icmp .ge 25, 3) := by decide +kernel
theorem dX10_remembers_18 : decode cX10_remembers 18 = .ok (.aload_n 0, 1) := by decide +kernel
theorem dX10_remembers_19 : decode cX10_remembers 19 = .ok (.getfield 19, 3) := by decide +kernel
theorem dX10_remembers_22 : decode cX10_remembers 22 = .ok (.iload_n 1, 1) := by decide +kernel
theorem dX10_remembers_23 : decode cX10_remembers 23 = .ok (.aload_n 0, 1) := by decide +kernel
theorem dX10_remembers_24 : decode cX10_remembers 24 = .ok (.getfield 19, 3) := by decide +kernel
theorem dX10_remembers_27 : decode cX10_remembers 27 = .ok (.iload_n 1, 1) := by decide +kernel
theorem dX10_remembers_28 : decode cX10_remembers 28 = .ok (.sipush 407, 3) := by decide +kernel
theorem dX10_remembers_31 : decode cX10_remembers 31 = .ok (.iadd, 1) := by decide +kernel
theorem dX10_remembers_32 : decode cX10_remembers 32 = .ok (.iaload, 1) := by decide +kernel
theorem dX10_remembers_33 : decode cX10_remembers 33 = .ok (.iastore, 1) := by decide +kernel
theorem dX10_remembers_34 : decode cX10_remembers 34 = .ok (.iinc 1 1, 3) := by decide +kernel
theorem dX10_remembers_37 : decode cX10_remembers 37 = .ok (.goto (-26), 3) := by decide +kernel
theorem dX10_remembers_40 : decode cX10_remembers 40 = .ok (.aload_n 0, 1) := by decide +kernel
theorem dX10_remembers_41 : decode cX10_remembers 41 = .ok (.dup, 1) := by decide +kernel
theorem dX10_remembers_42 : decode cX10_remembers 42 = .ok (.getfield 184, 3) := by decide +kernel
theorem dX10_remembers_45 : decode cX10_remembers 45 = .ok (.iconst 1, 1) := by decide +kernel
theorem dX10_remembers_46 : decode cX10_remembers 46 = .ok (.isub, 1) := by decide +kernel
theorem dX10_remembers_47 : decode cX10_remembers 47 = .ok (.putfield 184, 3) := by decide +kernel
theorem dX10_remembers_50 : decode cX10_remembers 50 = .ok (.iconst 0, 1) := by decide +kernel
theorem dX10_remembers_51 : decode cX10_remembers 51 = .ok (.istore_n 1, 1) := by decide +kernel
theorem dX10_remembers_52 : decode cX10_remembers 52 = .ok (.iload_n 1, 1) := by decide +kernel
theorem dX10_remembers_53 : decode cX10_remembers 53 = .ok (.sipush 407, 3) := by decide +kernel
theorem dX10_remembers_56 : decode cX10_remembers 56 = .ok (.if_icmp .ge 30, 3) := by decide +kernel
theorem dX10_remembers_59 : decode cX10_remembers 59 = .ok (.aload_n 0, 1) := by decide +kernel
theorem dX10_remembers_60 : decode cX10_remembers 60 = .ok (.getfield 19, 3) := by decide +kernel
theorem dX10_remembers_63 : decode cX10_remembers 63 = .ok (.sipush 407, 3) := by decide +kernel
theorem dX10_remembers_66 : decode cX10_remembers 66 = .ok (.aload_n 0, 1) := by decide +kernel
theorem dX10_remembers_67 : decode cX10_remembers 67 = .ok (.getfield 184, 3) := by decide +kernel
theorem dX10_remembers_70 : decode cX10_remembers 70 = .ok (.imul, 1) := by decide +kernel
theorem dX10_remembers_71 : decode cX10_remembers 71 = .ok (.iload_n 1, 1) := by decide +kernel
theorem dX10_remembers_72 : decode cX10_remembers 72 = .ok (.iadd, 1) := by decide +kernel
theorem dX10_remembers_73 : decode cX10_remembers 73 = .ok (.aload_n 0, 1) := by decide +kernel
theorem dX10_remembers_74 : decode cX10_remembers 74 = .ok (.getfield 7, 3) := by decide +kernel
theorem dX10_remembers_77 : decode cX10_remembers 77 = .ok (.iload_n 1, 1) := by decide +kernel
theorem dX10_remembers_78 : decode cX10_remembers 78 = .ok (.iaload, 1) := by decide +kernel
theorem dX10_remembers_79 : decode cX10_remembers 79 = .ok (.iastore, 1) := by decide +kernel
theorem dX10_remembers_80 : decode cX10_remembers 80 = .ok (.iinc 1 1, 3) := by decide +kernel
theorem dX10_remembers_83 : decode cX10_remembers 83 = .ok (.goto (-31), 3) := by decide +kernel
theorem dX10_remembers_86 : decode cX10_remembers 86 = .ok (.aload_n 0, 1) := by decide +kernel
theorem dX10_remembers_87 : decode cX10_remembers 87 = .ok (.dup, 1) := by decide +kernel
theorem dX10_remembers_88 : decode cX10_remembers 88 = .ok (.getfield 184, 3) := by decide +kernel
theorem dX10_remembers_91 : decode cX10_remembers 91 = .ok (.iconst 1, 1) := by decide +kernel
theorem dX10_remembers_92 : decode cX10_remembers 92 = .ok (.iadd, 1) := by decide +kernel
theorem dX10_remembers_93 : decode cX10_remembers 93 = .ok (.putfield 184, 3) := by decide +kernel
theorem dX10_remembers_96 : decode cX10_remembers 96 = .ok (.return_, 1) := by decide +kernel
theorem dX10_move_0 : decode cX10_move 0 = .ok (.aload_n 0, 1) := by decide +kernel
theorem dX10_move_1 : decode cX10_move 1 = .ok (.aload_n 0, 1) := by decide +kernel
theorem dX10_move_2 : decode cX10_move 2 = .ok (.iload_n 1, 1) := by decide +kernel
theorem dX10_move_3 : decode cX10_move 3 = .ok (.invokevirtual 285, 3) := by decide +kernel
theorem dX10_move_6 : decode cX10_move 6 = .ok (.ifCond .eq 13, 3) := by decide +kernel
theorem dX10_move_9 : decode cX10_move 9 = .ok (.iload_n 2, 1) := by decide +kernel
theorem dX10_move_10 : decode cX10_move 10 = .ok (.iconst 0, 1) := by decide +kernel
theorem dX10_move_11 : decode cX10_move 11 = .ok (.bipush 19, 2) := by decide +kernel
theorem dX10_move_13 : decode cX10_move 13 = .ok (.invokestatic 66, 3) := by decide +kernel
theorem dX10_move_16 : decode cX10_move 16 = .ok (.ifCond .ne 7, 3) := by decide +kernel
theorem dX10_move_19 : decode cX10_move 19 = .ok (.iconst 1, 1) := by decide +kernel
theorem dX10_move_20 : decode cX10_move 20 = .ok (.goto 4, 3) := by decide +kernel
theorem dX10_move_23 : decode cX10_move 23 = .ok (.iconst 0, 1) := by decide +kernel
theorem dX10_move_24 : decode cX10_move 24 = .ok (.putfield 63, 3) := by decide +kernel
theorem dX10_move_27 : decode cX10_move 27 = .ok (.aload_n 0, 1) := by decide +kernel
theorem dX10_move_28 : decode cX10_move 28 = .ok (.getfield 63, 3) := by decide +kernel
theorem dX10_move_31 : decode cX10_move 31 = .ok (.ifCond .le 5, 3) := by decide +kernel
theorem dX10_move_34 : decode cX10_move 34 = .ok (.iconst 0, 1) := by decide +kernel
theorem dX10_move_35 : decode cX10_move 35 = .ok (.ireturn, 1) := by decide +kernel
theorem dX10_move_36 : decode cX10_move 36 = .ok (.aload_n 0, 1) := by decide +kernel
theorem dX10_move_37 : decode cX10_move 37 = .ok (.invokevirtual 306, 3) := by decide +kernel
theorem dX10_move_40 : decode cX10_move 40 = .ok (.aload_n 0, 1) := by decide +kernel
theorem dX10_move_41 : decode cX10_move 41 = .ok (.iload_n 2, 1) := by decide +kernel
theorem dX10_move_42 : decode cX10_move 42 = .ok (.invokevirtual 122, 3) := by decide +kernel
theorem dX10_move_45 : decode cX10_move 45 = .ok (.istore_n 3, 1) := by decide +kernel
theorem dX10_move_46 : decode cX10_move 46 = .ok (.iload_n 3, 1) := by decide +kernel
theorem dX10_move_47 : decode cX10_move 47 = .ok (.iload_n 1, 1) := by decide +kernel
theorem dX10_move_48 : decode cX10_move 48 = .ok (.if_icmp .ne 5, 3) := by decide +kernel
theorem dX10_move_51 : decode cX10_move 51 = .ok (.iconst (-1), 1) := by decide +kernel
theorem dX10_move_52 : decode cX10_move 52 = .ok (.ireturn, 1) := by decide +kernel
theorem dX10_move_53 : decode cX10_move 53 = .ok (.iload_n 3, 1) := by decide +kernel
theorem dX10_move_54 : decode cX10_move 54 = .ok (.iconst (-1), 1) := by decide +kernel
theorem dX10_move_55 : decode cX10_move 55 = .ok (.if_icmp .eq 22, 3) := by decide +kernel
theorem dX10_move_58 : decode cX10_move 58 = .ok (.aload_n 0, 1) := by decide +kernel
theorem dX10_move_59 : decode cX10_move 59 = .ok (.getfield 7, 3) := by decide +kernel
theorem dX10_move_62 : decode cX10_move 62 = .ok (.bipush 12, 2) := by decide +kernel
theorem dX10_move_64 : decode cX10_move 64 = .ok (.iconst 5, 1) := by decide +kernel
theorem dX10_move_65 : decode cX10_move 65 = .ok (.iload_n 3, 1) := by decide +kernel
theorem dX10_move_66 : decode cX10_move 66 = .ok (.imul, 1) := by decide +kernel
theorem dX10_move_67 : decode cX10_move 67 = .ok (.iadd, 1) := by decide +kernel
theorem dX10_move_68 : decode cX10_move 68 = .ok (.iconst 0, 1) := by decide +kernel
theorem dX10_move_69 : decode cX10_move 69 = .ok (.iadd, 1) := by decide +kernel
theorem dX10_move_70 : decode cX10_move 70 = .ok (.aload_n 0, 1) := by decide +kernel
theorem dX10_move_71 : decode cX10_move 71 = .ok (.iload_n 1, 1) := by decide +kernel
theorem dX10_move_72 : decode cX10_move 72 = .ok (.iconst 0, 1) := by decide +kernel
theorem dX10_move_73 : decode cX10_move 73 = .ok (.invokevirtual 70, 3) := by decide +kernel
theorem dX10_move_76 : decode cX10_move 76 = .ok (.iastore, 1) := by decide +kernel
theorem dX10_move_77 : decode cX10_move 77 = .ok (.aload_n 0, 1) := by decide +kernel
theorem dX10_move_78 : decode cX10_move 78 = .ok (.getfield 7, 3) := by decide +kernel
theorem dX10_move_81 : decode cX10_move 81 = .ok (.bipush 12, 2) := by decide +kernel
theorem dX10_move_83 : decode cX10_move 83 = .ok (.iconst 5, 1) := by decide +kernel
theorem dX10_move_84 : decode cX10_move 84 = .ok (.iload_n 1, 1) := by decide +kernel
theorem dX10_move_85 : decode cX10_move 85 = .ok (.imul, 1) := by decide +kernel
theorem dX10_move_86 : decode cX10_move 86 = .ok (.iadd, 1) := by decide +kernel
theorem dX10_move_87 : decode cX10_move 87 = .ok (.iconst 0, 1) := by decide +kernel
theorem dX10_move_88 : decode cX10_move 88 = .ok (.iadd, 1) := by decide +kernel
theorem dX10_move_89 : decode cX10_move 89 = .ok (.iload_n 2, 1) := by decide +kernel
theorem dX10_move_90 : decode cX10_move 90 = .ok (.iastore, 1) := by decide +kernel
theorem dX10_move_91 : decode cX10_move 91 = .ok (.iload_n 3, 1) := by decide +kernel
theorem dX10_move_92 : decode cX10_move 92 = .ok (.ireturn, 1) := by decide +kernel
theorem dX10_hold_0 : decode cX10_hold 0 = .ok (.aload_n 0, 1) := by decide +kernel
theorem dX10_hold_1 : decode cX10_hold 1 = .ok (.aload_n 0, 1) := by decide +kernel
theorem dX10_hold_2 : decode cX10_hold 2 = .ok (.iload_n 1, 1) := by decide +kernel
theorem dX10_hold_3 : decode cX10_hold 3 = .ok (.invokevirtual 285, 3) := by decide +kernel
theorem dX10_hold_6 : decode cX10_hold 6 = .ok (.ifCond .ne 7, 3) := by decide +kernel
theorem dX10_hold_9 : decode cX10_hold 9 = .ok (.iconst 1, 1) := by decide +kernel
theorem dX10_hold_10 : decode cX10_hold 10 = .ok (.goto 18, 3) := by decide +kernel
theorem dX10_hold_13 : decode cX10_hold 13 = .ok (.iload_n 2, 1) := by decide +kernel
theorem dX10_hold_14 : decode cX10_hold 14 = .ok (.iconst 0, 1) := by decide +kernel
theorem dX10_hold_15 : decode cX10_hold 15 = .ok (.bipush 99, 2) := by decide +kernel
theorem dX10_hold_17 : decode cX10_hold 17 = .ok (.invokestatic 66, 3) := by decide +kernel
theorem dX10_hold_20 : decode cX10_hold 20 = .ok (.ifCond .ne 7, 3) := by decide +kernel
theorem dX10_hold_23 : decode cX10_hold 23 = .ok (.iconst 2, 1) := by decide +kernel
theorem dX10_hold_24 : decode cX10_hold 24 = .ok (.goto 4, 3) := by decide +kernel
theorem dX10_hold_27 : decode cX10_hold 27 = .ok (.iconst 0, 1) := by decide +kernel
theorem dX10_hold_28 : decode cX10_hold 28 = .ok (.putfield 63, 3) := by decide +kernel
theorem dX10_hold_31 : decode cX10_hold 31 = .ok (.aload_n 0, 1) := by decide +kernel
theorem dX10_hold_32 : decode cX10_hold 32 = .ok (.getfield 63, 3) := by decide +kernel
theorem dX10_hold_35 : decode cX10_hold 35 = .ok (.ifCond .le 5, 3) := by decide +kernel
theorem dX10_hold_38 : decode cX10_hold 38 = .ok (.iconst 0, 1) := by decide +kernel
theorem dX10_hold_39 : decode cX10_hold 39 = .ok (.ireturn, 1) := by decide +kernel
theorem dX10_hold_40 : decode cX10_hold 40 = .ok (.aload_n 0, 1) := by decide +kernel
theorem dX10_hold_41 : decode cX10_hold 41 = .ok (.invokevirtual 306, 3) := by decide +kernel
theorem dX10_hold_44 : decode cX10_hold 44 = .ok (.aload_n 0, 1) := by decide +kernel
theorem dX10_hold_45 : decode cX10_hold 45 = .ok (.iload_n 1, 1) := by decide +kernel
theorem dX10_hold_46 : decode cX10_hold 46 = .ok (.iconst 1, 1) := by decide +kernel
theorem dX10_hold_47 : decode cX10_hold 47 = .ok (.invokevirtual 70, 3) := by decide +kernel
theorem dX10_hold_50 : decode cX10_hold 50 = .ok (.istore_n 3, 1) := by decide +kernel
theorem dX10_hold_51 : decode cX10_hold 51 = .ok (.aload_n 0, 1) := by decide +kernel
theorem dX10_hold_52 : decode cX10_hold 52 = .ok (.getfield 7, 3) := by decide +kernel
theorem dX10_hold_55 : decode cX10_hold 55 = .ok (.bipush 12, 2) := by decide +kernel
theorem dX10_hold_57 : decode cX10_hold 57 = .ok (.iconst 5, 1) := by decide +kernel
theorem dX10_hold_58 : decode cX10_hold 58 = .ok (.iload_n 1, 1) := by decide +kernel
theorem dX10_hold_59 : decode cX10_hold 59 = .ok (.imul, 1) := by decide +kernel
theorem dX10_hold_60 : decode cX10_hold 60 = .ok (.iadd, 1) := by decide +kernel
theorem dX10_hold_61 : decode cX10_hold 61 = .ok (.iconst 1, 1) := by decide +kernel
theorem dX10_hold_62 : decode cX10_hold 62 = .ok (.iadd, 1) := by decide +kernel
theorem dX10_hold_63 : decode cX10_hold 63 = .ok (.iload_n 2, 1) := by decide +kernel
theorem dX10_hold_64 : decode cX10_hold 64 = .ok (.iastore, 1) := by decide +kernel
theorem dX10_hold_65 : decode cX10_hold 65 = .ok (.iload_n 3, 1) := by decide +kernel
theorem dX10_hold_66 : decode cX10_hold 66 = .ok (.ireturn, 1) := by decide +kernel
theorem dX10_show_0 : decode cX10_show 0 = .ok (.aload_n 0, 1) := by decide +kernel
theorem dX10_show_1 : decode cX10_show 1 = .ok (.aload_n 0, 1) := by decide +kernel
theorem dX10_show_2 : decode cX10_show 2 = .ok (.iload_n 1, 1) := by decide +kernel
theorem dX10_show_3 : decode cX10_show 3 = .ok (.invokevirtual 285, 3) := by decide +kernel
theorem dX10_show_6 : decode cX10_show 6 = .ok (.ifCond .ne 7, 3) := by decide +kernel
theorem dX10_show_9 : decode cX10_show 9 = .ok (.iconst 1, 1) := by decide +kernel
theorem dX10_show_10 : decode cX10_show 10 = .ok (.goto 4, 3) := by decide +kernel
theorem dX10_show_13 : decode cX10_show 13 = .ok (.iconst 0, 1) := by decide +kernel
theorem dX10_show_14 : decode cX10_show 14 = .ok (.putfield 63, 3) := by decide +kernel
theorem dX10_show_17 : decode cX10_show 17 = .ok (.aload_n 0, 1) := by decide +kernel
theorem dX10_show_18 : decode cX10_show 18 = .ok (.getfield 63, 3) := by decide +kernel
theorem dX10_show_21 : decode cX10_show 21 = .ok (.ifCond .le 5, 3) := by decide +kernel
theorem dX10_show_24 : decode cX10_show 24 = .ok (.iconst 0, 1) := by decide +kernel
theorem dX10_show_25 : decode cX10_show 25 = .ok (.ireturn, 1) := by decide +kernel
theorem dX10_show_26 : decode cX10_show 26 = .ok (.aload_n 0, 1) := by decide +kernel
theorem dX10_show_27 : decode cX10_show 27 = .ok (.invokevirtual 306, 3) := by decide +kernel
theorem dX10_show_30 : decode cX10_show 30 = .ok (.aload_n 0, 1) := by decide +kernel
theorem dX10_show_31 : decode cX10_show 31 = .ok (.iload_n 1, 1) := by decide +kernel
theorem dX10_show_32 : decode cX10_show 32 = .ok (.iconst 3, 1) := by decide +kernel
theorem dX10_show_33 : decode cX10_show 33 = .ok (.invokevirtual 70, 3) := by decide +kernel
theorem dX10_show_36 : decode cX10_show 36 = .ok (.iconst 1, 1) := by decide +kernel
theorem dX10_show_37 : decode cX10_show 37 = .ok (.if_icmp .ne 7, 3) := by decide +kernel
theorem dX10_show_40 : decode cX10_show 40 = .ok (.iconst 1, 1) := by decide +kernel
theorem dX10_show_41 : decode cX10_show 41 = .ok (.goto 4, 3) := by decide +kernel
theorem dX10_show_44 : decode cX10_show 44 = .ok (.iconst 0, 1) := by decide +kernel
theorem dX10_show_45 : decode cX10_show 45 = .ok (.istore_n 3, 1) := by decide +kernel
theorem dX10_show_46 : decode cX10_show 46 = .ok (.aload_n 0, 1) := by decide +kernel
theorem dX10_show_47 : decode cX10_show 47 = .ok (.getfield 7, 3) := by decide +kernel
theorem dX10_show_50 : decode cX10_show 50 = .ok (.bipush 12, 2) := by decide +kernel
theorem dX10_show_52 : decode cX10_show 52 = .ok (.iconst 5, 1) := by decide +kernel
theorem dX10_show_53 : decode cX10_show 53 = .ok (.iload_n 1, 1) := by decide +kernel
theorem dX10_show_54 : decode cX10_show 54 = .ok (.imul, 1) := by decide +kernel
theorem dX10_show_55 : decode cX10_show 55 = .ok (.iadd, 1) := by decide +kernel
theorem dX10_show_56 : decode cX10_show 56 = .ok (.iconst 3, 1) := by decide +kernel
theorem dX10_show_57 : decode cX10_show 57 = .ok (.iadd, 1) := by decide +kernel
theorem dX10_show_58 : decode cX10_show 58 = .ok (.iload_n 2, 1) := by decide +kernel
theorem dX10_show_59 : decode cX10_show 59 = .ok (.ifCond .eq 7, 3) := by decide +kernel
theorem dX10_show_62 : decode cX10_show 62 = .ok (.iconst 1, 1) := by decide +kernel
theorem dX10_show_63 : decode cX10_show 63 = .ok (.goto 4, 3) := by decide +kernel
theorem dX10_show_66 : decode cX10_show 66 = .ok (.iconst 0, 1) := by decide +kernel
theorem dX10_show_67 : decode cX10_show 67 = .ok (.iastore, 1) := by decide +kernel
theorem dX10_show_68 : decode cX10_show 68 = .ok (.iload_n 3, 1) := by decide +kernel
theorem dX10_show_69 : decode cX10_show 69 = .ok (.iload_n 2, 1) := by decide +kernel
theorem dX10_show_70 : decode cX10_show 70 = .ok (.if_icmp .eq 7, 3) := by decide +kernel
theorem dX10_show_73 : decode cX10_show 73 = .ok (.iconst 1, 1) := by decide +kernel
theorem dX10_show_74 : decode cX10_show 74 = .ok (.goto 4, 3) := by decide +kernel
theorem dX10_show_77 : decode cX10_show 77 = .ok (.iconst 0, 1) := by decide +kernel
theorem dX10_show_78 : decode cX10_show 78 = .ok (.ireturn, 1) := by decide +kernel
theorem dX10_clean_0 : decode cX10_clean 0 = .ok (.aload_n 0, 1) := by decide +kernel
theorem dX10_clean_1 : decode cX10_clean 1 = .ok (.aload_n 0, 1) := by decide +kernel
theorem dX10_clean_2 : decode cX10_clean 2 = .ok (.iload_n 1, 1) := by decide +kernel
theorem dX10_clean_3 : decode cX10_clean 3 = .ok (.invokevirtual 300, 3) := by decide +kernel
theorem dX10_clean_6 : decode cX10_clean 6 = .ok (.ifCond .ne 7, 3) := by decide +kernel
theorem dX10_clean_9 : decode cX10_clean 9 = .ok (.iconst 1, 1) := by decide +kernel
theorem dX10_clean_10 : decode cX10_clean 10 = .ok (.goto 18, 3) := by decide +kernel
theorem dX10_clean_13 : decode cX10_clean 13 = .ok (.iload_n 2, 1) := by decide +kernel
theorem dX10_clean_14 : decode cX10_clean 14 = .ok (.iconst 0, 1) := by decide +kernel
theorem dX10_clean_15 : decode cX10_clean 15 = .ok (.bipush 9, 2) := by decide +kernel
theorem dX10_clean_17 : decode cX10_clean 17 = .ok (.invokestatic 66, 3) := by decide +kernel
theorem dX10_clean_20 : decode cX10_clean 20 = .ok (.ifCond .ne 7, 3) := by decide +kernel
theorem dX10_clean_23 : decode cX10_clean 23 = .ok (.iconst 2, 1) := by decide +kernel
theorem dX10_clean_24 : decode cX10_clean 24 = .ok (.goto 4, 3) := by decide +kernel
theorem dX10_clean_27 : decode cX10_clean 27 = .ok (.iconst 0, 1) := by decide +kernel
theorem dX10_clean_28 : decode cX10_clean 28 = .ok (.putfield 63, 3) := by decide +kernel
theorem dX10_clean_31 : decode cX10_clean 31 = .ok (.aload_n 0, 1) := by decide +kernel
theorem dX10_clean_32 : decode cX10_clean 32 = .ok (.getfield 63, 3) := by decide +kernel
theorem dX10_clean_35 : decode cX10_clean 35 = .ok (.ifCond .le 5, 3) := by decide +kernel
theorem dX10_clean_38 : decode cX10_clean 38 = .ok (.iconst 0, 1) := by decide +kernel
theorem dX10_clean_39 : decode cX10_clean 39 = .ok (.ireturn, 1) := by decide +kernel
theorem dX10_clean_40 : decode cX10_clean 40 = .ok (.aload_n 0, 1) := by decide +kernel
theorem dX10_clean_41 : decode cX10_clean 41 = .ok (.invokevirtual 306, 3) := by decide +kernel
theorem dX10_clean_44 : decode cX10_clean 44 = .ok (.aload_n 0, 1) := by decide +kernel
theorem dX10_clean_45 : decode cX10_clean 45 = .ok (.iload_n 1, 1) := by decide +kernel
theorem dX10_clean_46 : decode cX10_clean 46 = .ok (.iconst 1, 1) := by decide +kernel
theorem dX10_clean_47 : decode cX10_clean 47 = .ok (.invokevirtual 246, 3) := by decide +kernel
theorem dX10_clean_50 : decode cX10_clean 50 = .ok (.istore_n 3, 1) := by decide +kernel
theorem dX10_clean_51 : decode cX10_clean 51 = .ok (.aload_n 0, 1) := by decide +kernel
theorem dX10_clean_52 : decode cX10_clean 52 = .ok (.getfield 7, 3) := by decide +kernel
theorem dX10_clean_55 : decode cX10_clean 55 = .ok (.bipush 57, 2) := by decide +kernel
theorem dX10_clean_57 : decode cX10_clean 57 = .ok (.iconst 5, 1) := by decide +kernel
theorem dX10_clean_58 : decode cX10_clean 58 = .ok (.iload_n 1, 1) := by decide +kernel
theorem dX10_clean_59 : decode cX10_clean 59 = .ok (.imul, 1) := by decide +kernel
theorem dX10_clean_60 : decode cX10_clean 60 = .ok (.iadd, 1) := by decide +kernel
theorem dX10_clean_61 : decode cX10_clean 61 = .ok (.iconst 1, 1) := by decide +kernel
theorem dX10_clean_62 : decode cX10_clean 62 = .ok (.iadd, 1) := by decide +kernel
theorem dX10_clean_63 : decode cX10_clean 63 = .ok (.iload_n 2, 1) := by decide +kernel
theorem dX10_clean_64 : decode cX10_clean 64 = .ok (.iastore, 1) := by decide +kernel
theorem dX10_clean_65 : decode cX10_clean 65 = .ok (.iload_n 3, 1) := by decide +kernel
theorem dX10_clean_66 : decode cX10_clean 66 = .ok (.ireturn, 1) := by decide +kernel
theorem dX10_mark_0 : decode cX10_mark 0 = .ok (.aload_n 0, 1) := by decide +kernel
theorem dX10_mark_1 : decode cX10_mark 1 = .ok (.aload_n 0, 1) := by decide +kernel
theorem dX10_mark_2 : decode cX10_mark 2 = .ok (.iload_n 1, 1) := by decide +kernel
theorem dX10_mark_3 : decode cX10_mark 3 = .ok (.invokevirtual 300, 3) := by decide +kernel
theorem dX10_mark_6 : decode cX10_mark 6 = .ok (.ifCond .eq 12, 3) := by decide +kernel
theorem dX10_mark_9 : decode cX10_mark 9 = .ok (.iload_n 2, 1) := by decide +kernel
theorem dX10_mark_10 : decode cX10_mark 10 = .ok (.iconst 0, 1) := by decide +kernel
theorem dX10_mark_11 : decode cX10_mark 11 = .ok (.iconst 5, 1) := by decide +kernel
theorem dX10_mark_12 : decode cX10_mark 12 = .ok (.invokestatic 66, 3) := by decide +kernel
theorem dX10_mark_15 : decode cX10_mark 15 = .ok (.ifCond .ne 7, 3) := by decide +kernel
theorem dX10_mark_18 : decode cX10_mark 18 = .ok (.iconst 1, 1) := by decide +kernel
theorem dX10_mark_19 : decode cX10_mark 19 = .ok (.goto 4, 3) := by decide +kernel
theorem dX10_mark_22 : decode cX10_mark 22 = .ok (.iconst 0, 1) := by decide +kernel
theorem dX10_mark_23 : decode cX10_mark 23 = .ok (.putfield 63, 3) := by decide +kernel
theorem dX10_mark_26 : decode cX10_mark 26 = .ok (.aload_n 0, 1) := by decide +kernel
theorem dX10_mark_27 : decode cX10_mark 27 = .ok (.getfield 63, 3) := by decide +kernel
theorem dX10_mark_30 : decode cX10_mark 30 = .ok (.ifCond .le 5, 3) := by decide +kernel
theorem dX10_mark_33 : decode cX10_mark 33 = .ok (.iconst 0, 1) := by decide +kernel
theorem dX10_mark_34 : decode cX10_mark 34 = .ok (.ireturn, 1) := by decide +kernel
theorem dX10_mark_35 : decode cX10_mark 35 = .ok (.aload_n 0, 1) := by decide +kernel
theorem dX10_mark_36 : decode cX10_mark 36 = .ok (.invokevirtual 306, 3) := by decide +kernel
theorem dX10_mark_39 : decode cX10_mark 39 = .ok (.aload_n 0, 1) := by decide +kernel
theorem dX10_mark_40 : decode cX10_mark 40 = .ok (.iload_n 1, 1) := by decide +kernel
theorem dX10_mark_41 : decode cX10_mark 41 = .ok (.iconst 4, 1) := by decide +kernel
theorem dX10_mark_42 : decode cX10_mark 42 = .ok (.invokevirtual 246, 3) := by decide +kernel
theorem dX10_mark_45 : decode cX10_mark 45 = .ok (.istore 4, 2) := by decide +kernel
theorem dX10_mark_47 : decode cX10_mark 47 = .ok (.aload_n 0, 1) := by decide +kernel
theorem dX10_mark_48 : decode cX10_mark 48 = .ok (.getfield 7, 3) := by decide +kernel
theorem dX10_mark_51 : decode cX10_mark 51 = .ok (.bipush 57, 2) := by decide +kernel
theorem dX10_mark_53 : decode cX10_mark 53 = .ok (.iconst 5, 1) := by decide +kernel
theorem dX10_mark_54 : decode cX10_mark 54 = .ok (.iload_n 1, 1) := by decide +kernel
theorem dX10_mark_55 : decode cX10_mark 55 = .ok (.imul, 1) := by decide +kernel
theorem dX10_mark_56 : decode cX10_mark 56 = .ok (.iadd, 1) := by decide +kernel
theorem dX10_mark_57 : decode cX10_mark 57 = .ok (.iconst 4, 1) := by decide +kernel
theorem dX10_mark_58 : decode cX10_mark 58 = .ok (.iadd, 1) := by decide +kernel
theorem dX10_mark_59 : decode cX10_mark 59 = .ok (.iload_n 3, 1) := by decide +kernel
theorem dX10_mark_60 : decode cX10_mark 60 = .ok (.ifCond .eq 12, 3) := by decide +kernel
theorem dX10_mark_63 : decode cX10_mark 63 = .ok (.iload 4, 2) := by decide +kernel
theorem dX10_mark_65 : decode cX10_mark 65 = .ok (.iconst 1, 1) := by decide +kernel
theorem dX10_mark_66 : decode cX10_mark 66 = .ok (.iload_n 2, 1) := by decide +kernel
theorem dX10_mark_67 : decode cX10_mark 67 = .ok (.ishl, 1) := by decide +kernel
theorem dX10_mark_68 : decode cX10_mark 68 = .ok (.ior, 1) := by decide +kernel
theorem dX10_mark_69 : decode cX10_mark 69 = .ok (.goto 11, 3) := by decide +kernel
theorem dX10_mark_72 : decode cX10_mark 72 = .ok (.iload 4, 2) := by decide +kernel
theorem dX10_mark_74 : decode cX10_mark 74 = .ok (.iconst 1, 1) := by decide +kernel
theorem dX10_mark_75 : decode cX10_mark 75 = .ok (.iload_n 2, 1) := by decide +kernel
theorem dX10_mark_76 : decode cX10_mark 76 = .ok (.ishl, 1) := by decide +kernel
theorem dX10_mark_77 : decode cX10_mark 77 = .ok (.iconst (-1), 1) := by decide +kernel
theorem dX10_mark_78 : decode cX10_mark 78 = .ok (.ixor, 1) := by decide +kernel
theorem dX10_mark_79 : decode cX10_mark 79 = .ok (.iand, 1) := by decide +kernel
theorem dX10_mark_80 : decode cX10_mark 80 = .ok (.iastore, 1) := by decide +kernel
theorem dX10_mark_81 : decode cX10_mark 81 = .ok (.iload 4, 2) := by decide +kernel
theorem dX10_mark_83 : decode cX10_mark 83 = .ok (.aload_n 0, 1) := by decide +kernel
theorem dX10_mark_84 : decode cX10_mark 84 = .ok (.iload_n 1, 1) := by decide +kernel
theorem dX10_mark_85 : decode cX10_mark 85 = .ok (.iconst 4, 1) := by decide +kernel
theorem dX10_mark_86 : decode cX10_mark 86 = .ok (.invokevirtual 246, 3) := by decide +kernel
theorem dX10_mark_89 : decode cX10_mark 89 = .ok (.if_icmp .eq 7, 3) := by decide +kernel
theorem dX10_mark_92 : decode cX10_mark 92 = .ok (.iconst 1, 1) := by decide +kernel
theorem dX10_mark_93 : decode cX10_mark 93 = .ok (.goto 4, 3) := by decide +kernel
theorem dX10_mark_96 : decode cX10_mark 96 = .ok (.iconst 0, 1) := by decide +kernel
theorem dX10_mark_97 : decode cX10_mark 97 = .ok (.ireturn, 1) := by decide +kernel
theorem dX10_trade_0 : decode cX10_trade 0 = .ok (.aload_n 0, 1) := by decide +kernel
theorem dX10_trade_1 : decode cX10_trade 1 = .ok (.aload_n 0, 1) := by decide +kernel
theorem dX10_trade_2 : decode cX10_trade 2 = .ok (.iload_n 1, 1) := by decide +kernel
theorem dX10_trade_3 : decode cX10_trade 3 = .ok (.invokevirtual 300, 3) := by decide +kernel
theorem dX10_trade_6 : decode cX10_trade 6 = .ok (.ifCond .eq 11, 3) := by decide +kernel
theorem dX10_trade_9 : decode cX10_trade 9 = .ok (.aload_n 0, 1) := by decide +kernel
theorem dX10_trade_10 : decode cX10_trade 10 = .ok (.iload_n 2, 1) := by decide +kernel
theorem dX10_trade_11 : decode cX10_trade 11 = .ok (.invokevirtual 300, 3) := by decide +kernel
theorem dX10_trade_14 : decode cX10_trade 14 = .ok (.ifCond .ne 7, 3) := by decide +kernel
theorem dX10_trade_17 : decode cX10_trade 17 = .ok (.iconst 1, 1) := by decide +kernel
theorem dX10_trade_18 : decode cX10_trade 18 = .ok (.goto 13, 3) := by decide +kernel
theorem dX10_trade_21 : decode cX10_trade 21 = .ok (.iload_n 1, 1) := by decide +kernel
theorem dX10_trade_22 : decode cX10_trade 22 = .ok (.iload_n 2, 1) := by decide +kernel
theorem dX10_trade_23 : decode cX10_trade 23 = .ok (.if_icmp .ne 7, 3) := by decide +kernel
theorem dX10_trade_26 : decode cX10_trade 26 = .ok (.iconst 2, 1) := by decide +kernel
theorem dX10_trade_27 : decode cX10_trade 27 = .ok (.goto 4, 3) := by decide +kernel
theorem dX10_trade_30 : decode cX10_trade 30 = .ok (.iconst 0, 1) := by decide +kernel
theorem dX10_trade_31 : decode cX10_trade 31 = .ok (.putfield 63, 3) := by decide +kernel
theorem dX10_trade_34 : decode cX10_trade 34 = .ok (.aload_n 0, 1) := by decide +kernel
theorem dX10_trade_35 : decode cX10_trade 35 = .ok (.getfield 63, 3) := by decide +kernel
theorem dX10_trade_38 : decode cX10_trade 38 = .ok (.ifCond .le 4, 3) := by decide +kernel
theorem dX10_trade_41 : decode cX10_trade 41 = .ok (.return_, 1) := by decide +kernel
theorem dX10_trade_42 : decode cX10_trade 42 = .ok (.aload_n 0, 1) := by decide +kernel
theorem dX10_trade_43 : decode cX10_trade 43 = .ok (.invokevirtual 306, 3) := by decide +kernel
theorem dX10_trade_46 : decode cX10_trade 46 = .ok (.iconst 0, 1) := by decide +kernel
theorem dX10_trade_47 : decode cX10_trade 47 = .ok (.istore_n 3, 1) := by decide +kernel
theorem dX10_trade_48 : decode cX10_trade 48 = .ok (.iload_n 3, 1) := by decide +kernel
theorem dX10_trade_49 : decode cX10_trade 49 = .ok (.iconst 5, 1) := by decide +kernel
theorem dX10_trade_50 : decode cX10_trade 50 = .ok (.if_icmp .ge 51, 3) := by decide +kernel
theorem dX10_trade_53 : decode cX10_trade 53 = .ok (.aload_n 0, 1) := by decide +kernel
theorem dX10_trade_54 : decode cX10_trade 54 = .ok (.iload_n 1, 1) := by decide +kernel
theorem dX10_trade_55 : decode cX10_trade 55 = .ok (.iload_n 3, 1) := by decide +kernel
theorem dX10_trade_56 : decode cX10_trade 56 = .ok (.invokevirtual 246, 3) := by decide +kernel
theorem dX10_trade_59 : decode cX10_trade 59 = .ok (.istore 4, 2) := by decide +kernel
theorem dX10_trade_61 : decode cX10_trade 61 = .ok (.aload_n 0, 1) := by decide +kernel
theorem dX10_trade_62 : decode cX10_trade 62 = .ok (.getfield 7, 3) := by decide +kernel
theorem dX10_trade_65 : decode cX10_trade 65 = .ok (.bipush 57, 2) := by decide +kernel
theorem dX10_trade_67 : decode cX10_trade 67 = .ok (.iconst 5, 1) := by decide +kernel
theorem dX10_trade_68 : decode cX10_trade 68 = .ok (.iload_n 1, 1) := by decide +kernel
theorem dX10_trade_69 : decode cX10_trade 69 = .ok (.imul, 1) := by decide +kernel
theorem dX10_trade_70 : decode cX10_trade 70 = .ok (.iadd, 1) := by decide +kernel
theorem dX10_trade_71 : decode cX10_trade 71 = .ok (.iload_n 3, 1) := by decide +kernel
theorem dX10_trade_72 : decode cX10_trade 72 = .ok (.iadd, 1) := by decide +kernel
theorem dX10_trade_73 : decode cX10_trade 73 = .ok (.aload_n 0, 1) := by decide +kernel
theorem dX10_trade_74 : decode cX10_trade 74 = .ok (.iload_n 2, 1) := by decide +kernel
theorem dX10_trade_75 : decode cX10_trade 75 = .ok (.iload_n 3, 1) := by decide +kernel
theorem dX10_trade_76 : decode cX10_trade 76 = .ok (.invokevirtual 246, 3) := by decide +kernel
theorem dX10_trade_79 : decode cX10_trade 79 = .ok (.iastore, 1) := by decide +kernel
theorem dX10_trade_80 : decode cX10_trade 80 = .ok (.aload_n 0, 1) := by decide +kernel
theorem dX10_trade_81 : decode cX10_trade 81 = .ok (.getfield 7, 3) := by decide +kernel
theorem dX10_trade_84 : decode cX10_trade 84 = .ok (.bipush 57, 2) := by decide +kernel
theorem dX10_trade_86 : decode cX10_trade 86 = .ok (.iconst 5, 1) := by decide +kernel
theorem dX10_trade_87 : decode cX10_trade 87 = .ok (.iload_n 2, 1) := by decide +kernel
theorem dX10_trade_88 : decode cX10_trade 88 = .ok (.imul, 1) := by decide +kernel
theorem dX10_trade_89 : decode cX10_trade 89 = .ok (.iadd, 1) := by decide +kernel
theorem dX10_trade_90 : decode cX10_trade 90 = .ok (.iload_n 3, 1) := by decide +kernel
theorem dX10_trade_91 : decode cX10_trade 91 = .ok (.iadd, 1) := by decide +kernel
theorem dX10_trade_92 : decode cX10_trade 92 = .ok (.iload 4, 2) := by decide +kernel
theorem dX10_trade_94 : decode cX10_trade 94 = .ok (.iastore, 1) := by decide +kernel
theorem dX10_trade_95 : decode cX10_trade 95 = .ok (.iinc 3 1, 3) := by decide +kernel
theorem dX10_trade_98 : decode cX10_trade 98 = .ok (.goto (-50), 3) := by decide +kernel
theorem dX10_trade_101 : decode cX10_trade 101 = .ok (.return_, 1) := by decide +kernel
theorem dX10_days_0 : decode cX10_days 0 = .ok (.aload_n 0, 1) := by decide +kernel
theorem dX10_days_1 : decode cX10_days 1 = .ok (.iload_n 1, 1) := by decide +kernel
theorem dX10_days_2 : decode cX10_days 2 = .ok (.iconst 1, 1) := by decide +kernel
theorem dX10_days_3 : decode cX10_days 3 = .ok (.bipush 50, 2) := by decide +kernel
theorem dX10_days_5 : decode cX10_days 5 = .ok (.invokestatic 66, 3) := by decide +kernel
theorem dX10_days_8 : decode cX10_days 8 = .ok (.ifCond .ne 7, 3) := by decide +kernel
theorem dX10_days_11 : decode cX10_days 11 = .ok (.iconst 1, 1) := by decide +kernel
theorem dX10_days_12 : decode cX10_days 12 = .ok (.goto 4, 3) := by decide +kernel
theorem dX10_days_15 : decode cX10_days 15 = .ok (.iconst 0, 1) := by decide +kernel
theorem dX10_days_16 : decode cX10_days 16 = .ok (.putfield 63, 3) := by decide +kernel
theorem dX10_days_19 : decode cX10_days 19 = .ok (.aload_n 0, 1) := by decide +kernel
theorem dX10_days_20 : decode cX10_days 20 = .ok (.getfield 63, 3) := by decide +kernel
theorem dX10_days_23 : decode cX10_days 23 = .ok (.ifCond .le 5, 3) := by decide +kernel
theorem dX10_days_26 : decode cX10_days 26 = .ok (.iconst 0, 1) := by decide +kernel
theorem dX10_days_27 : decode cX10_days 27 = .ok (.ireturn, 1) := by decide +kernel
theorem dX10_days_28 : decode cX10_days 28 = .ok (.aload_n 0, 1) := by decide +kernel
theorem dX10_days_29 : decode cX10_days 29 = .ok (.invokevirtual 306, 3) := by decide +kernel
theorem dX10_days_32 : decode cX10_days 32 = .ok (.aload_n 0, 1) := by decide +kernel
theorem dX10_days_33 : decode cX10_days 33 = .ok (.iload_n 1, 1) := by decide +kernel
theorem dX10_days_34 : decode cX10_days 34 = .ok (.invokevirtual 309, 3) := by decide +kernel
theorem dX10_days_37 : decode cX10_days 37 = .ok (.ireturn, 1) := by decide +kernel
theorem dX10_had_0 : decode cX10_had 0 = .ok (.aload_n 0, 1) := by decide +kernel
theorem dX10_had_1 : decode cX10_had 1 = .ok (.iconst 0, 1) := by decide +kernel
theorem dX10_had_2 : decode cX10_had 2 = .ok (.putfield 63, 3) := by decide +kernel
theorem dX10_had_5 : decode cX10_had 5 = .ok (.aload_n 0, 1) := by decide +kernel
theorem dX10_had_6 : decode cX10_had 6 = .ok (.invokevirtual 288, 3) := by decide +kernel
theorem dX10_had_9 : decode cX10_had 9 = .ok (.aload_n 0, 1) := by decide +kernel
theorem dX10_had_10 : decode cX10_had 10 = .ok (.invokevirtual 312, 3) := by decide +kernel
theorem dX10_had_13 : decode cX10_had 13 = .ok (.ireturn, 1) := by decide +kernel
theorem dX10_first_0 : decode cX10_first 0 = .ok (.aload_n 0, 1) := by decide +kernel
theorem dX10_first_1 : decode cX10_first 1 = .ok (.iconst 0, 1) := by decide +kernel
theorem dX10_first_2 : decode cX10_first 2 = .ok (.putfield 63, 3) := by decide +kernel
theorem dX10_first_5 : decode cX10_first 5 = .ok (.aload_n 0, 1) := by decide +kernel
theorem dX10_first_6 : decode cX10_first 6 = .ok (.invokevirtual 288, 3) := by decide +kernel
theorem dX10_first_9 : decode cX10_first 9 = .ok (.iconst 0, 1) := by decide +kernel
theorem dX10_first_10 : decode cX10_first 10 = .ok (.istore_n 1, 1) := by decide +kernel
theorem dX10_first_11 : decode cX10_first 11 = .ok (.iload_n 1, 1) := by decide +kernel
theorem dX10_first_12 : decode cX10_first 12 = .ok (.bipush 20, 2) := by decide +kernel
theorem dX10_first_14 : decode cX10_first 14 = .ok (.if_icmp .ge 41, 3) := by decide +kernel
theorem dX10_first_17 : decode cX10_first 17 = .ok (.aload_n 0, 1) := by decide +kernel
theorem dX10_first_18 : decode cX10_first 18 = .ok (.iload_n 1, 1) := by decide +kernel
theorem dX10_first_19 : decode cX10_first 19 = .ok (.invokevirtual 122, 3) := by decide +kernel
theorem dX10_first_22 : decode cX10_first 22 = .ok (.istore_n 2, 1) := by decide +kernel
theorem dX10_first_23 : decode cX10_first 23 = .ok (.iload_n 2, 1) := by decide +kernel
theorem dX10_first_24 : decode cX10_first 24 = .ok (.iconst (-1), 1) := by decide +kernel
theorem dX10_first_25 : decode cX10_first 25 = .ok (.if_icmp .eq 24, 3) := by decide +kernel
theorem dX10_first_28 : decode cX10_first 28 = .ok (.aload_n 0, 1) := by decide +kernel
theorem dX10_first_29 : decode cX10_first 29 = .ok (.iload_n 2, 1) := by decide +kernel
theorem dX10_first_30 : decode cX10_first 30 = .ok (.iconst 3, 1) := by decide +kernel
theorem dX10_first_31 : decode cX10_first 31 = .ok (.invokevirtual 70, 3) := by decide +kernel
theorem dX10_first_34 : decode cX10_first 34 = .ok (.iconst 1, 1) := by decide +kernel
theorem dX10_first_35 : decode cX10_first 35 = .ok (.if_icmp .ne 14, 3) := by decide +kernel
theorem dX10_first_38 : decode cX10_first 38 = .ok (.aload_n 0, 1) := by decide +kernel
theorem dX10_first_39 : decode cX10_first 39 = .ok (.getfield 41, 3) := by decide +kernel
theorem dX10_first_42 : decode cX10_first 42 = .ok (.iload_n 2, 1) := by decide +kernel
theorem dX10_first_43 : decode cX10_first 43 = .ok (.iaload, 1) := by decide +kernel
theorem dX10_first_44 : decode cX10_first 44 = .ok (.ifCond .ne 5, 3) := by decide +kernel
theorem dX10_first_47 : decode cX10_first 47 = .ok (.iload_n 2, 1) := by decide +kernel
theorem dX10_first_48 : decode cX10_first 48 = .ok (.ireturn, 1) := by decide +kernel
theorem dX10_first_49 : decode cX10_first 49 = .ok (.iinc 1 1, 3) := by decide +kernel
theorem dX10_first_52 : decode cX10_first 52 = .ok (.goto (-41), 3) := by decide +kernel
theorem dX10_first_55 : decode cX10_first 55 = .ok (.iconst (-1), 1) := by decide +kernel
theorem dX10_first_56 : decode cX10_first 56 = .ok (.ireturn, 1) := by decide +kernel
theorem dX10_finds_0 : decode cX10_finds 0 = .ok (.iconst 0, 1) := by decide +kernel
theorem dX10_finds_1 : decode cX10_finds 1 = .ok (.istore_n 3, 1) := by decide +kernel
theorem dX10_finds_2 : decode cX10_finds 2 = .ok (.iload_n 3, 1) := by decide +kernel
theorem dX10_finds_3 : decode cX10_finds 3 = .ok (.aload_n 0, 1) := by decide +kernel
theorem dX10_finds_4 : decode cX10_finds 4 = .ok (.getfield 7, 3) := by decide +kernel
theorem dX10_finds_7 : decode cX10_finds 7 = .ok (.iconst 3, 1) := by decide +kernel
theorem dX10_finds_8 : decode cX10_finds 8 = .ok (.iaload, 1) := by decide +kernel
theorem dX10_finds_9 : decode cX10_finds 9 = .ok (.if_icmp .ge 63, 3) := by decide +kernel
theorem dX10_finds_12 : decode cX10_finds 12 = .ok (.aload_n 0, 1) := by decide +kernel
theorem dX10_finds_13 : decode cX10_finds 13 = .ok (.getfield 47, 3) := by decide +kernel
theorem dX10_finds_16 : decode cX10_finds 16 = .ok (.iload_n 1, 1) := by decide +kernel
theorem dX10_finds_17 : decode cX10_finds 17 = .ok (.iaload, 1) := by decide +kernel
theorem dX10_finds_18 : decode cX10_finds 18 = .ok (.iload_n 2, 1) := by decide +kernel
theorem dX10_finds_19 : decode cX10_finds 19 = .ok (.iconst (-1), 1) := by decide +kernel
theorem dX10_finds_20 : decode cX10_finds 20 = .ok (.ixor, 1) := by decide +kernel
theorem dX10_finds_21 : decode cX10_finds 21 = .ok (.iand, 1) := by decide +kernel
theorem dX10_finds_22 : decode cX10_finds 22 = .ok (.iload_n 3, 1) := by decide +kernel
theorem dX10_finds_23 : decode cX10_finds 23 = .ok (.invokestatic 117, 3) := by decide +kernel
theorem dX10_finds_26 : decode cX10_finds 26 = .ok (.ifCond .eq 40, 3) := by decide +kernel
theorem dX10_finds_29 : decode cX10_finds 29 = .ok (.aload_n 0, 1) := by decide +kernel
theorem dX10_finds_30 : decode cX10_finds 30 = .ok (.getfield 41, 3) := by decide +kernel
theorem dX10_finds_33 : decode cX10_finds 33 = .ok (.iload_n 3, 1) := by decide +kernel
theorem dX10_finds_34 : decode cX10_finds 34 = .ok (.iaload, 1) := by decide +kernel
theorem dX10_finds_35 : decode cX10_finds 35 = .ok (.aload_n 0, 1) := by decide +kernel
theorem dX10_finds_36 : decode cX10_finds 36 = .ok (.iload_n 3, 1) := by decide +kernel
theorem dX10_finds_37 : decode cX10_finds 37 = .ok (.iconst 2, 1) := by decide +kernel
theorem dX10_finds_38 : decode cX10_finds 38 = .ok (.invokevirtual 70, 3) := by decide +kernel
theorem dX10_finds_41 : decode cX10_finds 41 = .ok (.if_icmp .ne 6, 3) := by decide +kernel
theorem dX10_finds_44 : decode cX10_finds 44 = .ok (.goto 22, 3) := by decide +kernel
theorem dX10_finds_47 : decode cX10_finds 47 = .ok (.aload_n 0, 1) := by decide +kernel
theorem dX10_finds_48 : decode cX10_finds 48 = .ok (.getfield 44, 3) := by decide +kernel
theorem dX10_finds_51 : decode cX10_finds 51 = .ok (.iload_n 1, 1) := by decide +kernel
theorem dX10_finds_52 : decode cX10_finds 52 = .ok (.iload_n 3, 1) := by decide +kernel
theorem dX10_finds_53 : decode cX10_finds 53 = .ok (.iastore, 1) := by decide +kernel
theorem dX10_finds_54 : decode cX10_finds 54 = .ok (.aload_n 0, 1) := by decide +kernel
theorem dX10_finds_55 : decode cX10_finds 55 = .ok (.getfield 41, 3) := by decide +kernel
theorem dX10_finds_58 : decode cX10_finds 58 = .ok (.iload_n 3, 1) := by decide +kernel
theorem dX10_finds_59 : decode cX10_finds 59 = .ok (.dup2, 1) := by decide +kernel
theorem dX10_finds_60 : decode cX10_finds 60 = .ok (.iaload, 1) := by decide +kernel
theorem dX10_finds_61 : decode cX10_finds 61 = .ok (.iconst 1, 1) := by decide +kernel
theorem dX10_finds_62 : decode cX10_finds 62 = .ok (.iadd, 1) := by decide +kernel
theorem dX10_finds_63 : decode cX10_finds 63 = .ok (.iastore, 1) := by decide +kernel
theorem dX10_finds_64 : decode cX10_finds 64 = .ok (.iconst 1, 1) := by decide +kernel
theorem dX10_finds_65 : decode cX10_finds 65 = .ok (.ireturn, 1) := by decide +kernel
theorem dX10_finds_66 : decode cX10_finds 66 = .ok (.iinc 3 1, 3) := by decide +kernel
theorem dX10_finds_69 : decode cX10_finds 69 = .ok (.goto (-67), 3) := by decide +kernel
theorem dX10_finds_72 : decode cX10_finds 72 = .ok (.iconst 0, 1) := by decide +kernel
theorem dX10_finds_73 : decode cX10_finds 73 = .ok (.istore_n 3, 1) := by decide +kernel
theorem dX10_finds_74 : decode cX10_finds 74 = .ok (.iload_n 3, 1) := by decide +kernel
theorem dX10_finds_75 : decode cX10_finds 75 = .ok (.aload_n 0, 1) := by decide +kernel
theorem dX10_finds_76 : decode cX10_finds 76 = .ok (.getfield 7, 3) := by decide +kernel
theorem dX10_finds_79 : decode cX10_finds 79 = .ok (.iconst 4, 1) := by decide +kernel
theorem dX10_finds_80 : decode cX10_finds 80 = .ok (.iaload, 1) := by decide +kernel
theorem dX10_finds_81 : decode cX10_finds 81 = .ok (.if_icmp .ge 81, 3) := by decide +kernel
theorem dX10_finds_84 : decode cX10_finds 84 = .ok (.aload_n 0, 1) := by decide +kernel
theorem dX10_finds_85 : decode cX10_finds 85 = .ok (.getfield 44, 3) := by decide +kernel
theorem dX10_finds_88 : decode cX10_finds 88 = .ok (.iload_n 3, 1) := by decide +kernel
theorem dX10_finds_89 : decode cX10_finds 89 = .ok (.iaload, 1) := by decide +kernel
theorem dX10_finds_90 : decode cX10_finds 90 = .ok (.iconst (-1), 1) := by decide +kernel
theorem dX10_finds_91 : decode cX10_finds 91 = .ok (.if_icmp .eq 65, 3) := by decide +kernel
theorem dX10_finds_94 : decode cX10_finds 94 = .ok (.aload_n 0, 1) := by decide +kernel
theorem dX10_finds_95 : decode cX10_finds 95 = .ok (.getfield 47, 3) := by decide +kernel
theorem dX10_finds_98 : decode cX10_finds 98 = .ok (.iload_n 1, 1) := by decide +kernel
theorem dX10_finds_99 : decode cX10_finds 99 = .ok (.iaload, 1) := by decide +kernel
theorem dX10_finds_100 : decode cX10_finds 100 = .ok (.iload_n 2, 1) := by decide +kernel
theorem dX10_finds_101 : decode cX10_finds 101 = .ok (.iconst (-1), 1) := by decide +kernel
theorem dX10_finds_102 : decode cX10_finds 102 = .ok (.ixor, 1) := by decide +kernel
theorem dX10_finds_103 : decode cX10_finds 103 = .ok (.iand, 1) := by decide +kernel
theorem dX10_finds_104 : decode cX10_finds 104 = .ok (.aload_n 0, 1) := by decide +kernel
theorem dX10_finds_105 : decode cX10_finds 105 = .ok (.getfield 44, 3) := by decide +kernel
theorem dX10_finds_108 : decode cX10_finds 108 = .ok (.iload_n 3, 1) := by decide +kernel
theorem dX10_finds_109 : decode cX10_finds 109 = .ok (.iaload, 1) := by decide +kernel
theorem dX10_finds_110 : decode cX10_finds 110 = .ok (.invokestatic 117, 3) := by decide +kernel
theorem dX10_finds_113 : decode cX10_finds 113 = .ok (.ifCond .ne 6, 3) := by decide +kernel
theorem dX10_finds_116 : decode cX10_finds 116 = .ok (.goto 40, 3) := by decide +kernel
theorem dX10_finds_119 : decode cX10_finds 119 = .ok (.aload_n 0, 1) := by decide +kernel
theorem dX10_finds_120 : decode cX10_finds 120 = .ok (.getfield 44, 3) := by decide +kernel
theorem dX10_finds_123 : decode cX10_finds 123 = .ok (.iload_n 3, 1) := by decide +kernel
theorem dX10_finds_124 : decode cX10_finds 124 = .ok (.iaload, 1) := by decide +kernel
theorem dX10_finds_125 : decode cX10_finds 125 = .ok (.istore 4, 2) := by decide +kernel
theorem dX10_finds_127 : decode cX10_finds 127 = .ok (.aload_n 0, 1) := by decide +kernel
theorem dX10_finds_128 : decode cX10_finds 128 = .ok (.iload_n 3, 1) := by decide +kernel
theorem dX10_finds_129 : decode cX10_finds 129 = .ok (.iload_n 2, 1) := by decide +kernel
theorem dX10_finds_130 : decode cX10_finds 130 = .ok (.aload_n 0, 1) := by decide +kernel
theorem dX10_finds_131 : decode cX10_finds 131 = .ok (.getfield 47, 3) := by decide +kernel
theorem dX10_finds_134 : decode cX10_finds 134 = .ok (.iload_n 1, 1) := by decide +kernel
theorem dX10_finds_135 : decode cX10_finds 135 = .ok (.iaload, 1) := by decide +kernel
theorem dX10_finds_136 : decode cX10_finds 136 = .ok (.ior, 1) := by decide +kernel
theorem dX10_finds_137 : decode cX10_finds 137 = .ok (.invokevirtual 315, 3) := by decide +kernel
theorem dX10_finds_140 : decode cX10_finds 140 = .ok (.ifCond .ne 6, 3) := by decide +kernel
theorem dX10_finds_143 : decode cX10_finds 143 = .ok (.goto 13, 3) := by decide +kernel
theorem dX10_finds_146 : decode cX10_finds 146 = .ok (.aload_n 0, 1) := by decide +kernel
theorem dX10_finds_147 : decode cX10_finds 147 = .ok (.getfield 44, 3) := by decide +kernel
theorem dX10_finds_150 : decode cX10_finds 150 = .ok (.iload_n 1, 1) := by decide +kernel
theorem dX10_finds_151 : decode cX10_finds 151 = .ok (.iload 4, 2) := by decide +kernel
theorem dX10_finds_153 : decode cX10_finds 153 = .ok (.iastore, 1) := by decide +kernel
theorem dX10_finds_154 : decode cX10_finds 154 = .ok (.iconst 1, 1) := by decide +kernel
theorem dX10_finds_155 : decode cX10_finds 155 = .ok (.ireturn, 1) := by decide +kernel
theorem dX10_finds_156 : decode cX10_finds 156 = .ok (.iinc 3 1, 3) := by decide +kernel
theorem dX10_finds_159 : decode cX10_finds 159 = .ok (.goto (-85), 3) := by decide +kernel
theorem dX10_finds_162 : decode cX10_finds 162 = .ok (.iconst 0, 1) := by decide +kernel
theorem dX10_finds_163 : decode cX10_finds 163 = .ok (.ireturn, 1) := by decide +kernel
theorem dX10_areHad_0 : decode cX10_areHad 0 = .ok (.iconst 0, 1) := by decide +kernel
theorem dX10_areHad_1 : decode cX10_areHad 1 = .ok (.istore_n 2, 1) := by decide +kernel
theorem dX10_areHad_2 : decode cX10_areHad 2 = .ok (.iload_n 2, 1) := by decide +kernel
theorem dX10_areHad_3 : decode cX10_areHad 3 = .ok (.bipush 9, 2) := by decide +kernel
theorem dX10_areHad_5 : decode cX10_areHad 5 = .ok (.if_icmp .ge 16, 3) := by decide +kernel
theorem dX10_areHad_8 : decode cX10_areHad 8 = .ok (.aload_n 0, 1) := by decide +kernel
theorem dX10_areHad_9 : decode cX10_areHad 9 = .ok (.getfield 41, 3) := by decide +kernel
theorem dX10_areHad_12 : decode cX10_areHad 12 = .ok (.iload_n 2, 1) := by decide +kernel
theorem dX10_areHad_13 : decode cX10_areHad 13 = .ok (.iconst 0, 1) := by decide +kernel
theorem dX10_areHad_14 : decode cX10_areHad 14 = .ok (.iastore, 1) := by decide +kernel
theorem dX10_areHad_15 : decode cX10_areHad 15 = .ok (.iinc 2 1, 3) := by decide +kernel
theorem dX10_areHad_18 : decode cX10_areHad 18 = .ok (.goto (-16), 3) := by decide +kernel
theorem dX10_areHad_21 : decode cX10_areHad 21 = .ok (.iconst 0, 1) := by decide +kernel
theorem dX10_areHad_22 : decode cX10_areHad 22 = .ok (.istore_n 2, 1) := by decide +kernel
theorem dX10_areHad_23 : decode cX10_areHad 23 = .ok (.iload_n 2, 1) := by decide +kernel
theorem dX10_areHad_24 : decode cX10_areHad 24 = .ok (.bipush 10, 2) := by decide +kernel
theorem dX10_areHad_26 : decode cX10_areHad 26 = .ok (.if_icmp .ge 16, 3) := by decide +kernel
theorem dX10_areHad_29 : decode cX10_areHad 29 = .ok (.aload_n 0, 1) := by decide +kernel
theorem dX10_areHad_30 : decode cX10_areHad 30 = .ok (.getfield 44, 3) := by decide +kernel
theorem dX10_areHad_33 : decode cX10_areHad 33 = .ok (.iload_n 2, 1) := by decide +kernel
theorem dX10_areHad_34 : decode cX10_areHad 34 = .ok (.iconst (-1), 1) := by decide +kernel
theorem dX10_areHad_35 : decode cX10_areHad 35 = .ok (.iastore, 1) := by decide +kernel
theorem dX10_areHad_36 : decode cX10_areHad 36 = .ok (.iinc 2 1, 3) := by decide +kernel
theorem dX10_areHad_39 : decode cX10_areHad 39 = .ok (.goto (-16), 3) := by decide +kernel
theorem dX10_areHad_42 : decode cX10_areHad 42 = .ok (.iconst 0, 1) := by decide +kernel
theorem dX10_areHad_43 : decode cX10_areHad 43 = .ok (.istore_n 2, 1) := by decide +kernel
theorem dX10_areHad_44 : decode cX10_areHad 44 = .ok (.iload_n 2, 1) := by decide +kernel
theorem dX10_areHad_45 : decode cX10_areHad 45 = .ok (.aload_n 0, 1) := by decide +kernel
theorem dX10_areHad_46 : decode cX10_areHad 46 = .ok (.getfield 7, 3) := by decide +kernel
theorem dX10_areHad_49 : decode cX10_areHad 49 = .ok (.iconst 4, 1) := by decide +kernel
theorem dX10_areHad_50 : decode cX10_areHad 50 = .ok (.iaload, 1) := by decide +kernel
theorem dX10_areHad_51 : decode cX10_areHad 51 = .ok (.if_icmp .ge 28, 3) := by decide +kernel
theorem dX10_areHad_54 : decode cX10_areHad 54 = .ok (.iload_n 1, 1) := by decide +kernel
theorem dX10_areHad_55 : decode cX10_areHad 55 = .ok (.iload_n 2, 1) := by decide +kernel
theorem dX10_areHad_56 : decode cX10_areHad 56 = .ok (.invokestatic 117, 3) := by decide +kernel
theorem dX10_areHad_59 : decode cX10_areHad 59 = .ok (.ifCond .eq 14, 3) := by decide +kernel
theorem dX10_areHad_62 : decode cX10_areHad 62 = .ok (.aload_n 0, 1) := by decide +kernel
theorem dX10_areHad_63 : decode cX10_areHad 63 = .ok (.iload_n 2, 1) := by decide +kernel
theorem dX10_areHad_64 : decode cX10_areHad 64 = .ok (.iconst 0, 1) := by decide +kernel
theorem dX10_areHad_65 : decode cX10_areHad 65 = .ok (.invokevirtual 315, 3) := by decide +kernel
theorem dX10_areHad_68 : decode cX10_areHad 68 = .ok (.ifCond .ne 5, 3) := by decide +kernel
theorem dX10_areHad_71 : decode cX10_areHad 71 = .ok (.iconst 0, 1) := by decide +kernel
theorem dX10_areHad_72 : decode cX10_areHad 72 = .ok (.ireturn, 1) := by decide +kernel
theorem dX10_areHad_73 : decode cX10_areHad 73 = .ok (.iinc 2 1, 3) := by decide +kernel
theorem dX10_areHad_76 : decode cX10_areHad 76 = .ok (.goto (-32), 3) := by decide +kernel
theorem dX10_areHad_79 : decode cX10_areHad 79 = .ok (.iconst 1, 1) := by decide +kernel
theorem dX10_areHad_80 : decode cX10_areHad 80 = .ok (.ireturn, 1) := by decide +kernel
theorem dX10_looks_0 : decode cX10_looks 0 = .ok (.aload_n 0, 1) := by decide +kernel
theorem dX10_looks_1 : decode cX10_looks 1 = .ok (.invokevirtual 272, 3) := by decide +kernel
theorem dX10_looks_4 : decode cX10_looks 4 = .ok (.iconst 0, 1) := by decide +kernel
theorem dX10_looks_5 : decode cX10_looks 5 = .ok (.istore_n 1, 1) := by decide +kernel
theorem dX10_looks_6 : decode cX10_looks 6 = .ok (.iload_n 1, 1) := by decide +kernel
theorem dX10_looks_7 : decode cX10_looks 7 = .ok (.aload_n 0, 1) := by decide +kernel
theorem dX10_looks_8 : decode cX10_looks 8 = .ok (.getfield 7, 3) := by decide +kernel
theorem dX10_looks_11 : decode cX10_looks 11 = .ok (.iconst 4, 1) := by decide +kernel
theorem dX10_looks_12 : decode cX10_looks 12 = .ok (.iaload, 1) := by decide +kernel
theorem dX10_looks_13 : decode cX10_looks 13 = .ok (.if_icmp .ge 20, 3) := by decide +kernel
theorem dX10_looks_16 : decode cX10_looks 16 = .ok (.aload_n 0, 1) := by decide +kernel
theorem dX10_looks_17 : decode cX10_looks 17 = .ok (.getfield 47, 3) := by decide +kernel
theorem dX10_looks_20 : decode cX10_looks 20 = .ok (.iload_n 1, 1) := by decide +kernel
theorem dX10_looks_21 : decode cX10_looks 21 = .ok (.aload_n 0, 1) := by decide +kernel
theorem dX10_looks_22 : decode cX10_looks 22 = .ok (.iload_n 1, 1) := by decide +kernel
theorem dX10_looks_23 : decode cX10_looks 23 = .ok (.invokevirtual 303, 3) := by decide +kernel
theorem dX10_looks_26 : decode cX10_looks 26 = .ok (.iastore, 1) := by decide +kernel
theorem dX10_looks_27 : decode cX10_looks 27 = .ok (.iinc 1 1, 3) := by decide +kernel
theorem dX10_looks_30 : decode cX10_looks 30 = .ok (.goto (-24), 3) := by decide +kernel
theorem dX10_looks_33 : decode cX10_looks 33 = .ok (.return_, 1) := by decide +kernel
theorem dX10_most_0 : decode cX10_most 0 = .ok (.aload_n 0, 1) := by decide +kernel
theorem dX10_most_1 : decode cX10_most 1 = .ok (.iconst 0, 1) := by decide +kernel
theorem dX10_most_2 : decode cX10_most 2 = .ok (.putfield 63, 3) := by decide +kernel
theorem dX10_most_5 : decode cX10_most 5 = .ok (.aload_n 0, 1) := by decide +kernel
theorem dX10_most_6 : decode cX10_most 6 = .ok (.invokevirtual 318, 3) := by decide +kernel
theorem dX10_most_9 : decode cX10_most 9 = .ok (.iconst 0, 1) := by decide +kernel
theorem dX10_most_10 : decode cX10_most 10 = .ok (.istore_n 1, 1) := by decide +kernel
theorem dX10_most_11 : decode cX10_most 11 = .ok (.iconst 0, 1) := by decide +kernel
theorem dX10_most_12 : decode cX10_most 12 = .ok (.istore_n 2, 1) := by decide +kernel
theorem dX10_most_13 : decode cX10_most 13 = .ok (.iload_n 2, 1) := by decide +kernel
theorem dX10_most_14 : decode cX10_most 14 = .ok (.iconst 1, 1) := by decide +kernel
theorem dX10_most_15 : decode cX10_most 15 = .ok (.aload_n 0, 1) := by decide +kernel
theorem dX10_most_16 : decode cX10_most 16 = .ok (.getfield 7, 3) := by decide +kernel
theorem dX10_most_19 : decode cX10_most 19 = .ok (.iconst 4, 1) := by decide +kernel
theorem dX10_most_20 : decode cX10_most 20 = .ok (.iaload, 1) := by decide +kernel
theorem dX10_most_21 : decode cX10_most 21 = .ok (.ishl, 1) := by decide +kernel
theorem dX10_most_22 : decode cX10_most 22 = .ok (.if_icmp .ge 30, 3) := by decide +kernel
theorem dX10_most_25 : decode cX10_most 25 = .ok (.iload_n 2, 1) := by decide +kernel
theorem dX10_most_26 : decode cX10_most 26 = .ok (.invokestatic 321, 3) := by decide +kernel
theorem dX10_most_29 : decode cX10_most 29 = .ok (.iload_n 1, 1) := by decide +kernel
theorem dX10_most_30 : decode cX10_most 30 = .ok (.invokestatic 321, 3) := by decide +kernel
theorem dX10_most_33 : decode cX10_most 33 = .ok (.if_icmp .le 13, 3) := by decide +kernel
theorem dX10_most_36 : decode cX10_most 36 = .ok (.aload_n 0, 1) := by decide +kernel
theorem dX10_most_37 : decode cX10_most 37 = .ok (.iload_n 2, 1) := by decide +kernel
theorem dX10_most_38 : decode cX10_most 38 = .ok (.invokevirtual 324, 3) := by decide +kernel
theorem dX10_most_41 : decode cX10_most 41 = .ok (.ifCond .eq 5, 3) := by decide +kernel
theorem dX10_most_44 : decode cX10_most 44 = .ok (.iload_n 2, 1) := by decide +kernel
theorem dX10_most_45 : decode cX10_most 45 = .ok (.istore_n 1, 1) := by decide +kernel
theorem dX10_most_46 : decode cX10_most 46 = .ok (.iinc 2 1, 3) := by decide +kernel
theorem dX10_most_49 : decode cX10_most 49 = .ok (.goto (-36), 3) := by decide +kernel
theorem dX10_most_52 : decode cX10_most 52 = .ok (.iload_n 1, 1) := by decide +kernel
theorem dX10_most_53 : decode cX10_most 53 = .ok (.ireturn, 1) := by decide +kernel
theorem dX10_cannot_0 : decode cX10_cannot 0 = .ok (.aload_n 0, 1) := by decide +kernel
theorem dX10_cannot_1 : decode cX10_cannot 1 = .ok (.iconst 0, 1) := by decide +kernel
theorem dX10_cannot_2 : decode cX10_cannot 2 = .ok (.putfield 63, 3) := by decide +kernel
theorem dX10_cannot_5 : decode cX10_cannot 5 = .ok (.aload_n 0, 1) := by decide +kernel
theorem dX10_cannot_6 : decode cX10_cannot 6 = .ok (.invokevirtual 318, 3) := by decide +kernel
theorem dX10_cannot_9 : decode cX10_cannot 9 = .ok (.iconst 0, 1) := by decide +kernel
theorem dX10_cannot_10 : decode cX10_cannot 10 = .ok (.istore_n 1, 1) := by decide +kernel
theorem dX10_cannot_11 : decode cX10_cannot 11 = .ok (.iconst 1, 1) := by decide +kernel
theorem dX10_cannot_12 : decode cX10_cannot 12 = .ok (.istore_n 2, 1) := by decide +kernel
theorem dX10_cannot_13 : decode cX10_cannot 13 = .ok (.iload_n 2, 1) := by decide +kernel
theorem dX10_cannot_14 : decode cX10_cannot 14 = .ok (.iconst 1, 1) := by decide +kernel
theorem dX10_cannot_15 : decode cX10_cannot 15 = .ok (.aload_n 0, 1) := by decide +kernel
theorem dX10_cannot_16 : decode cX10_cannot 16 = .ok (.getfield 7, 3) := by decide +kernel
theorem dX10_cannot_19 : decode cX10_cannot 19 = .ok (.iconst 4, 1) := by decide +kernel
theorem dX10_cannot_20 : decode cX10_cannot 20 = .ok (.iaload, 1) := by decide +kernel
theorem dX10_cannot_21 : decode cX10_cannot 21 = .ok (.ishl, 1) := by decide +kernel
theorem dX10_cannot_22 : decode cX10_cannot 22 = .ok (.if_icmp .ge 34, 3) := by decide +kernel
theorem dX10_cannot_25 : decode cX10_cannot 25 = .ok (.iload_n 1, 1) := by decide +kernel
theorem dX10_cannot_26 : decode cX10_cannot 26 = .ok (.ifCond .eq 14, 3) := by decide +kernel
theorem dX10_cannot_29 : decode cX10_cannot 29 = .ok (.iload_n 2, 1) := by decide +kernel
theorem dX10_cannot_30 : decode cX10_cannot 30 = .ok (.invokestatic 321, 3) := by decide +kernel
theorem dX10_cannot_33 : decode cX10_cannot 33 = .ok (.iload_n 1, 1) := by decide +kernel
theorem dX10_cannot_34 : decode cX10_cannot 34 = .ok (.invokestatic 321, 3) := by decide +kernel
theorem dX10_cannot_37 : decode cX10_cannot 37 = .ok (.if_icmp .ge 13, 3) := by decide +kernel
theorem dX10_cannot_40 : decode cX10_cannot 40 = .ok (.aload_n 0, 1) := by decide +kernel
theorem dX10_cannot_41 : decode cX10_cannot 41 = .ok (.iload_n 2, 1) := by decide +kernel
theorem dX10_cannot_42 : decode cX10_cannot 42 = .ok (.invokevirtual 324, 3) := by decide +kernel
theorem dX10_cannot_45 : decode cX10_cannot 45 = .ok (.ifCond .ne 5, 3) := by decide +kernel
theorem dX10_cannot_48 : decode cX10_cannot 48 = .ok (.iload_n 2, 1) := by decide +kernel
theorem dX10_cannot_49 : decode cX10_cannot 49 = .ok (.istore_n 1, 1) := by decide +kernel
theorem dX10_cannot_50 : decode cX10_cannot 50 = .ok (.iinc 2 1, 3) := by decide +kernel
theorem dX10_cannot_53 : decode cX10_cannot 53 = .ok (.goto (-40), 3) := by decide +kernel
theorem dX10_cannot_56 : decode cX10_cannot 56 = .ok (.iload_n 1, 1) := by decide +kernel
theorem dX10_cannot_57 : decode cX10_cannot 57 = .ok (.ireturn, 1) := by decide +kernel
theorem dX10_dearestFrom_0 : decode cX10_dearestFrom 0 = .ok (.iconst 0, 1) := by decide +kernel
theorem dX10_dearestFrom_1 : decode cX10_dearestFrom 1 = .ok (.istore_n 2, 1) := by decide +kernel
theorem dX10_dearestFrom_2 : decode cX10_dearestFrom 2 = .ok (.iload_n 2, 1) := by decide +kernel
theorem dX10_dearestFrom_3 : decode cX10_dearestFrom 3 = .ok (.bipush 10, 2) := by decide +kernel
theorem dX10_dearestFrom_5 : decode cX10_dearestFrom 5 = .ok (.if_icmp .ge 16, 3) := by decide +kernel
theorem dX10_dearestFrom_8 : decode cX10_dearestFrom 8 = .ok (.aload_n 0, 1) := by decide +kernel
theorem dX10_dearestFrom_9 : decode cX10_dearestFrom 9 = .ok (.getfield 44, 3) := by decide +kernel
theorem dX10_dearestFrom_12 : decode cX10_dearestFrom 12 = .ok (.iload_n 2, 1) := by decide +kernel
theorem dX10_dearestFrom_13 : decode cX10_dearestFrom 13 = .ok (.iconst (-1), 1) := by decide +kernel
theorem dX10_dearestFrom_14 : decode cX10_dearestFrom 14 = .ok (.iastore, 1) := by decide +kernel
theorem dX10_dearestFrom_15 : decode cX10_dearestFrom 15 = .ok (.iinc 2 1, 3) := by decide +kernel
theorem dX10_dearestFrom_18 : decode cX10_dearestFrom 18 = .ok (.goto (-16), 3) := by decide +kernel
theorem dX10_dearestFrom_21 : decode cX10_dearestFrom 21 = .ok (.iconst 0, 1) := by decide +kernel
theorem dX10_dearestFrom_22 : decode cX10_dearestFrom 22 = .ok (.istore_n 2, 1) := by decide +kernel
theorem dX10_dearestFrom_23 : decode cX10_dearestFrom 23 = .ok (.iload_n 2, 1) := by decide +kernel
theorem dX10_dearestFrom_24 : decode cX10_dearestFrom 24 = .ok (.bipush 9, 2) := by decide +kernel
theorem dX10_dearestFrom_26 : decode cX10_dearestFrom 26 = .ok (.if_icmp .ge 16, 3) := by decide +kernel
theorem dX10_dearestFrom_29 : decode cX10_dearestFrom 29 = .ok (.aload_n 0, 1) := by decide +kernel
theorem dX10_dearestFrom_30 : decode cX10_dearestFrom 30 = .ok (.getfield 41, 3) := by decide +kernel
theorem dX10_dearestFrom_33 : decode cX10_dearestFrom 33 = .ok (.iload_n 2, 1) := by decide +kernel
theorem dX10_dearestFrom_34 : decode cX10_dearestFrom 34 = .ok (.iconst 0, 1) := by decide +kernel
theorem dX10_dearestFrom_35 : decode cX10_dearestFrom 35 = .ok (.iastore, 1) := by decide +kernel
theorem dX10_dearestFrom_36 : decode cX10_dearestFrom 36 = .ok (.iinc 2 1, 3) := by decide +kernel
theorem dX10_dearestFrom_39 : decode cX10_dearestFrom 39 = .ok (.goto (-16), 3) := by decide +kernel
theorem dX10_dearestFrom_42 : decode cX10_dearestFrom 42 = .ok (.iconst 0, 1) := by decide +kernel
theorem dX10_dearestFrom_43 : decode cX10_dearestFrom 43 = .ok (.istore_n 2, 1) := by decide +kernel
theorem dX10_dearestFrom_44 : decode cX10_dearestFrom 44 = .ok (.aload_n 0, 1) := by decide +kernel
theorem dX10_dearestFrom_45 : decode cX10_dearestFrom 45 = .ok (.iload_n 1, 1) := by decide +kernel
theorem dX10_dearestFrom_46 : decode cX10_dearestFrom 46 = .ok (.invokevirtual 327, 3) := by decide +kernel
theorem dX10_dearestFrom_49 : decode cX10_dearestFrom 49 = .ok (.istore_n 3, 1) := by decide +kernel
theorem dX10_dearestFrom_50 : decode cX10_dearestFrom 50 = .ok (.iload_n 3, 1) := by decide +kernel
theorem dX10_dearestFrom_51 : decode cX10_dearestFrom 51 = .ok (.ifCond .le 16, 3) := by decide +kernel
theorem dX10_dearestFrom_54 : decode cX10_dearestFrom 54 = .ok (.iload_n 2, 1) := by decide +kernel
theorem dX10_dearestFrom_55 : decode cX10_dearestFrom 55 = .ok (.iload_n 3, 1) := by decide +kernel
theorem dX10_dearestFrom_56 : decode cX10_dearestFrom 56 = .ok (.iadd, 1) := by decide +kernel
theorem dX10_dearestFrom_57 : decode cX10_dearestFrom 57 = .ok (.istore_n 2, 1) := by decide +kernel
theorem dX10_dearestFrom_58 : decode cX10_dearestFrom 58 = .ok (.aload_n 0, 1) := by decide +kernel
theorem dX10_dearestFrom_59 : decode cX10_dearestFrom 59 = .ok (.iload_n 1, 1) := by decide +kernel
theorem dX10_dearestFrom_60 : decode cX10_dearestFrom 60 = .ok (.invokevirtual 327, 3) := by decide +kernel
theorem dX10_dearestFrom_63 : decode cX10_dearestFrom 63 = .ok (.istore_n 3, 1) := by decide +kernel
theorem dX10_dearestFrom_64 : decode cX10_dearestFrom 64 = .ok (.goto (-14), 3) := by decide +kernel
theorem dX10_dearestFrom_67 : decode cX10_dearestFrom 67 = .ok (.iload_n 2, 1) := by decide +kernel
theorem dX10_dearestFrom_68 : decode cX10_dearestFrom 68 = .ok (.ireturn, 1) := by decide +kernel
theorem dX10_stepsOn_0 : decode cX10_stepsOn 0 = .ok (.iconst 0, 1) := by decide +kernel
theorem dX10_stepsOn_1 : decode cX10_stepsOn 1 = .ok (.istore_n 2, 1) := by decide +kernel
theorem dX10_stepsOn_2 : decode cX10_stepsOn 2 = .ok (.iload_n 2, 1) := by decide +kernel
theorem dX10_stepsOn_3 : decode cX10_stepsOn 3 = .ok (.bipush 19, 2) := by decide +kernel
theorem dX10_stepsOn_5 : decode cX10_stepsOn 5 = .ok (.if_icmp .ge 63, 3) := by decide +kernel
theorem dX10_stepsOn_8 : decode cX10_stepsOn 8 = .ok (.aload_n 0, 1) := by decide +kernel
theorem dX10_stepsOn_9 : decode cX10_stepsOn 9 = .ok (.getfield 53, 3) := by decide +kernel
theorem dX10_stepsOn_12 : decode cX10_stepsOn 12 = .ok (.iload_n 2, 1) := by decide +kernel
theorem dX10_stepsOn_13 : decode cX10_stepsOn 13 = .ok (.iload_n 2, 1) := by decide +kernel
theorem dX10_stepsOn_14 : decode cX10_stepsOn 14 = .ok (.bipush 9, 2) := by decide +kernel
theorem dX10_stepsOn_16 : decode cX10_stepsOn 16 = .ok (.iload_n 1, 1) := by decide +kernel
theorem dX10_stepsOn_17 : decode cX10_stepsOn 17 = .ok (.iadd, 1) := by decide +kernel
theorem dX10_stepsOn_18 : decode cX10_stepsOn 18 = .ok (.if_icmp .lt 33, 3) := by decide +kernel
theorem dX10_stepsOn_21 : decode cX10_stepsOn 21 = .ok (.iload_n 2, 1) := by decide +kernel
theorem dX10_stepsOn_22 : decode cX10_stepsOn 22 = .ok (.bipush 9, 2) := by decide +kernel
theorem dX10_stepsOn_24 : decode cX10_stepsOn 24 = .ok (.aload_n 0, 1) := by decide +kernel
theorem dX10_stepsOn_25 : decode cX10_stepsOn 25 = .ok (.getfield 7, 3) := by decide +kernel
theorem dX10_stepsOn_28 : decode cX10_stepsOn 28 = .ok (.iconst 4, 1) := by decide +kernel
theorem dX10_stepsOn_29 : decode cX10_stepsOn 29 = .ok (.iaload, 1) := by decide +kernel
theorem dX10_stepsOn_30 : decode cX10_stepsOn 30 = .ok (.iadd, 1) := by decide +kernel
theorem dX10_stepsOn_31 : decode cX10_stepsOn 31 = .ok (.if_icmp .ge 20, 3) := by decide +kernel
theorem dX10_stepsOn_34 : decode cX10_stepsOn 34 = .ok (.aload_n 0, 1) := by decide +kernel
theorem dX10_stepsOn_35 : decode cX10_stepsOn 35 = .ok (.getfield 44, 3) := by decide +kernel
theorem dX10_stepsOn_38 : decode cX10_stepsOn 38 = .ok (.iload_n 2, 1) := by decide +kernel
theorem dX10_stepsOn_39 : decode cX10_stepsOn 39 = .ok (.bipush 9, 2) := by decide +kernel
theorem dX10_stepsOn_41 : decode cX10_stepsOn 41 = .ok (.isub, 1) := by decide +kernel
theorem dX10_stepsOn_42 : decode cX10_stepsOn 42 = .ok (.iaload, 1) := by decide +kernel
theorem dX10_stepsOn_43 : decode cX10_stepsOn 43 = .ok (.iconst (-1), 1) := by decide +kernel
theorem dX10_stepsOn_44 : decode cX10_stepsOn 44 = .ok (.if_icmp .ne 7, 3) := by decide +kernel
theorem dX10_stepsOn_47 : decode cX10_stepsOn 47 = .ok (.iconst 0, 1) := by decide +kernel
theorem dX10_stepsOn_48 : decode cX10_stepsOn 48 = .ok (.goto 6, 3) := by decide +kernel
theorem dX10_stepsOn_51 : decode cX10_stepsOn 51 = .ok (.ldc_w 330, 3) := by decide +kernel
theorem dX10_stepsOn_54 : decode cX10_stepsOn 54 = .ok (.iastore, 1) := by decide +kernel
theorem dX10_stepsOn_55 : decode cX10_stepsOn 55 = .ok (.aload_n 0, 1) := by decide +kernel
theorem dX10_stepsOn_56 : decode cX10_stepsOn 56 = .ok (.getfield 56, 3) := by decide +kernel
theorem dX10_stepsOn_59 : decode cX10_stepsOn 59 = .ok (.iload_n 2, 1) := by decide +kernel
theorem dX10_stepsOn_60 : decode cX10_stepsOn 60 = .ok (.iconst (-1), 1) := by decide +kernel
theorem dX10_stepsOn_61 : decode cX10_stepsOn 61 = .ok (.iastore, 1) := by decide +kernel
theorem dX10_stepsOn_62 : decode cX10_stepsOn 62 = .ok (.iinc 2 1, 3) := by decide +kernel
theorem dX10_stepsOn_65 : decode cX10_stepsOn 65 = .ok (.goto (-63), 3) := by decide +kernel
theorem dX10_stepsOn_68 : decode cX10_stepsOn 68 = .ok (.iconst 0, 1) := by decide +kernel
theorem dX10_stepsOn_69 : decode cX10_stepsOn 69 = .ok (.istore_n 2, 1) := by decide +kernel
theorem dX10_stepsOn_70 : decode cX10_stepsOn 70 = .ok (.iload_n 2, 1) := by decide +kernel
theorem dX10_stepsOn_71 : decode cX10_stepsOn 71 = .ok (.bipush 19, 2) := by decide +kernel
theorem dX10_stepsOn_73 : decode cX10_stepsOn 73 = .ok (.if_icmp .ge 229, 3) := by decide +kernel
theorem dX10_stepsOn_76 : decode cX10_stepsOn 76 = .ok (.iload_n 1, 1) := by decide +kernel
theorem dX10_stepsOn_77 : decode cX10_stepsOn 77 = .ok (.istore_n 3, 1) := by decide +kernel
theorem dX10_stepsOn_78 : decode cX10_stepsOn 78 = .ok (.iload_n 3, 1) := by decide +kernel
theorem dX10_stepsOn_79 : decode cX10_stepsOn 79 = .ok (.aload_n 0, 1) := by decide +kernel
theorem dX10_stepsOn_80 : decode cX10_stepsOn 80 = .ok (.getfield 7, 3) := by decide +kernel
theorem dX10_stepsOn_83 : decode cX10_stepsOn 83 = .ok (.iconst 4, 1) := by decide +kernel
theorem dX10_stepsOn_84 : decode cX10_stepsOn 84 = .ok (.iaload, 1) := by decide +kernel
theorem dX10_stepsOn_85 : decode cX10_stepsOn 85 = .ok (.if_icmp .ge 211, 3) := by decide +kernel
theorem dX10_stepsOn_88 : decode cX10_stepsOn 88 = .ok (.iconst 0, 1) := by decide +kernel
theorem dX10_stepsOn_89 : decode cX10_stepsOn 89 = .ok (.istore 4, 2) := by decide +kernel
theorem dX10_stepsOn_91 : decode cX10_stepsOn 91 = .ok (.iload 4, 2) := by decide +kernel
theorem dX10_stepsOn_93 : decode cX10_stepsOn 93 = .ok (.aload_n 0, 1) := by decide +kernel
theorem dX10_stepsOn_94 : decode cX10_stepsOn 94 = .ok (.getfield 7, 3) := by decide +kernel
theorem dX10_stepsOn_97 : decode cX10_stepsOn 97 = .ok (.iconst 3, 1) := by decide +kernel
theorem dX10_stepsOn_98 : decode cX10_stepsOn 98 = .ok (.iaload, 1) := by decide +kernel
theorem dX10_stepsOn_99 : decode cX10_stepsOn 99 = .ok (.if_icmp .ge 191, 3) := by decide +kernel
theorem dX10_stepsOn_102 : decode cX10_stepsOn 102 = .ok (.aload_n 0, 1) := by decide +kernel
theorem dX10_stepsOn_103 : decode cX10_stepsOn 103 = .ok (.getfield 47, 3) := by decide +kernel
theorem dX10_stepsOn_106 : decode cX10_stepsOn 106 = .ok (.iload_n 3, 1) := by decide +kernel
theorem dX10_stepsOn_107 : decode cX10_stepsOn 107 = .ok (.iaload, 1) := by decide +kernel
theorem dX10_stepsOn_108 : decode cX10_stepsOn 108 = .ok (.iload 4, 2) := by decide +kernel
theorem dX10_stepsOn_110 : decode cX10_stepsOn 110 = .ok (.invokestatic 117, 3) := by decide +kernel
theorem dX10_stepsOn_113 : decode cX10_stepsOn 113 = .ok (.ifCond .ne 6, 3) := by decide +kernel
theorem dX10_stepsOn_116 : decode cX10_stepsOn 116 = .ok (.goto 168, 3) := by decide +kernel
theorem dX10_stepsOn_119 : decode cX10_stepsOn 119 = .ok (.aload_n 0, 1) := by decide +kernel
theorem dX10_stepsOn_120 : decode cX10_stepsOn 120 = .ok (.getfield 32, 3) := by decide +kernel
theorem dX10_stepsOn_123 : decode cX10_stepsOn 123 = .ok (.bipush 10, 2) := by decide +kernel
theorem dX10_stepsOn_125 : decode cX10_stepsOn 125 = .ok (.iload 4, 2) := by decide +kernel
theorem dX10_stepsOn_127 : decode cX10_stepsOn 127 = .ok (.imul, 1) := by decide +kernel
theorem dX10_stepsOn_128 : decode cX10_stepsOn 128 = .ok (.iload_n 3, 1) := by decide +kernel
theorem dX10_stepsOn_129 : decode cX10_stepsOn 129 = .ok (.iadd, 1) := by decide +kernel
theorem dX10_stepsOn_130 : decode cX10_stepsOn 130 = .ok (.iaload, 1) := by decide +kernel
theorem dX10_stepsOn_131 : decode cX10_stepsOn 131 = .ok (.istore 5, 2) := by decide +kernel
theorem dX10_stepsOn_133 : decode cX10_stepsOn 133 = .ok (.aload_n 0, 1) := by decide +kernel
theorem dX10_stepsOn_134 : decode cX10_stepsOn 134 = .ok (.getfield 44, 3) := by decide +kernel
theorem dX10_stepsOn_137 : decode cX10_stepsOn 137 = .ok (.iload_n 3, 1) := by decide +kernel
theorem dX10_stepsOn_138 : decode cX10_stepsOn 138 = .ok (.iaload, 1) := by decide +kernel
theorem dX10_stepsOn_139 : decode cX10_stepsOn 139 = .ok (.iload 4, 2) := by decide +kernel
theorem dX10_stepsOn_141 : decode cX10_stepsOn 141 = .ok (.if_icmp .eq 67, 3) := by decide +kernel
theorem dX10_stepsOn_144 : decode cX10_stepsOn 144 = .ok (.aload_n 0, 1) := by decide +kernel
theorem dX10_stepsOn_145 : decode cX10_stepsOn 145 = .ok (.getfield 53, 3) := by decide +kernel
theorem dX10_stepsOn_148 : decode cX10_stepsOn 148 = .ok (.bipush 9, 2) := by decide +kernel
theorem dX10_stepsOn_150 : decode cX10_stepsOn 150 = .ok (.iload_n 3, 1) := by decide +kernel
theorem dX10_stepsOn_151 : decode cX10_stepsOn 151 = .ok (.iadd, 1) := by decide +kernel
theorem dX10_stepsOn_152 : decode cX10_stepsOn 152 = .ok (.iaload, 1) := by decide +kernel
theorem dX10_stepsOn_153 : decode cX10_stepsOn 153 = .ok (.ldc_w 330, 3) := by decide +kernel
theorem dX10_stepsOn_156 : decode cX10_stepsOn 156 = .ok (.if_icmp .le 52, 3) := by decide +kernel
theorem dX10_stepsOn_159 : decode cX10_stepsOn 159 = .ok (.aload_n 0, 1) := by decide +kernel
theorem dX10_stepsOn_160 : decode cX10_stepsOn 160 = .ok (.getfield 53, 3) := by decide +kernel
theorem dX10_stepsOn_163 : decode cX10_stepsOn 163 = .ok (.bipush 9, 2) := by decide +kernel
theorem dX10_stepsOn_165 : decode cX10_stepsOn 165 = .ok (.iload_n 3, 1) := by decide +kernel
theorem dX10_stepsOn_166 : decode cX10_stepsOn 166 = .ok (.iadd, 1) := by decide +kernel
theorem dX10_stepsOn_167 : decode cX10_stepsOn 167 = .ok (.iaload, 1) := by decide +kernel
theorem dX10_stepsOn_168 : decode cX10_stepsOn 168 = .ok (.iload 5, 2) := by decide +kernel
theorem dX10_stepsOn_170 : decode cX10_stepsOn 170 = .ok (.iadd, 1) := by decide +kernel
theorem dX10_stepsOn_171 : decode cX10_stepsOn 171 = .ok (.aload_n 0, 1) := by decide +kernel
theorem dX10_stepsOn_172 : decode cX10_stepsOn 172 = .ok (.getfield 53, 3) := by decide +kernel
theorem dX10_stepsOn_175 : decode cX10_stepsOn 175 = .ok (.iload 4, 2) := by decide +kernel
theorem dX10_stepsOn_177 : decode cX10_stepsOn 177 = .ok (.iaload, 1) := by decide +kernel
theorem dX10_stepsOn_178 : decode cX10_stepsOn 178 = .ok (.if_icmp .le 30, 3) := by decide +kernel
theorem dX10_stepsOn_181 : decode cX10_stepsOn 181 = .ok (.aload_n 0, 1) := by decide +kernel
theorem dX10_stepsOn_182 : decode cX10_stepsOn 182 = .ok (.getfield 53, 3) := by decide +kernel
theorem dX10_stepsOn_185 : decode cX10_stepsOn 185 = .ok (.iload 4, 2) := by decide +kernel
theorem dX10_stepsOn_187 : decode cX10_stepsOn 187 = .ok (.aload_n 0, 1) := by decide +kernel
theorem dX10_stepsOn_188 : decode cX10_stepsOn 188 = .ok (.getfield 53, 3) := by decide +kernel
theorem dX10_stepsOn_191 : decode cX10_stepsOn 191 = .ok (.bipush 9, 2) := by decide +kernel
theorem dX10_stepsOn_193 : decode cX10_stepsOn 193 = .ok (.iload_n 3, 1) := by decide +kernel
theorem dX10_stepsOn_194 : decode cX10_stepsOn 194 = .ok (.iadd, 1) := by decide +kernel
theorem dX10_stepsOn_195 : decode cX10_stepsOn 195 = .ok (.iaload, 1) := by decide +kernel
theorem dX10_stepsOn_196 : decode cX10_stepsOn 196 = .ok (.iload 5, 2) := by decide +kernel
theorem dX10_stepsOn_198 : decode cX10_stepsOn 198 = .ok (.iadd, 1) := by decide +kernel
theorem dX10_stepsOn_199 : decode cX10_stepsOn 199 = .ok (.iastore, 1) := by decide +kernel
theorem dX10_stepsOn_200 : decode cX10_stepsOn 200 = .ok (.aload_n 0, 1) := by decide +kernel
theorem dX10_stepsOn_201 : decode cX10_stepsOn 201 = .ok (.getfield 56, 3) := by decide +kernel
theorem dX10_stepsOn_204 : decode cX10_stepsOn 204 = .ok (.iload 4, 2) := by decide +kernel
theorem dX10_stepsOn_206 : decode cX10_stepsOn 206 = .ok (.iload_n 3, 1) := by decide +kernel
theorem dX10_stepsOn_207 : decode cX10_stepsOn 207 = .ok (.iastore, 1) := by decide +kernel
theorem dX10_stepsOn_208 : decode cX10_stepsOn 208 = .ok (.aload_n 0, 1) := by decide +kernel
theorem dX10_stepsOn_209 : decode cX10_stepsOn 209 = .ok (.getfield 44, 3) := by decide +kernel
theorem dX10_stepsOn_212 : decode cX10_stepsOn 212 = .ok (.iload_n 3, 1) := by decide +kernel
theorem dX10_stepsOn_213 : decode cX10_stepsOn 213 = .ok (.iaload, 1) := by decide +kernel
theorem dX10_stepsOn_214 : decode cX10_stepsOn 214 = .ok (.iload 4, 2) := by decide +kernel
theorem dX10_stepsOn_216 : decode cX10_stepsOn 216 = .ok (.if_icmp .ne 68, 3) := by decide +kernel
theorem dX10_stepsOn_219 : decode cX10_stepsOn 219 = .ok (.aload_n 0, 1) := by decide +kernel
theorem dX10_stepsOn_220 : decode cX10_stepsOn 220 = .ok (.getfield 53, 3) := by decide +kernel
theorem dX10_stepsOn_223 : decode cX10_stepsOn 223 = .ok (.iload 4, 2) := by decide +kernel
theorem dX10_stepsOn_225 : decode cX10_stepsOn 225 = .ok (.iaload, 1) := by decide +kernel
theorem dX10_stepsOn_226 : decode cX10_stepsOn 226 = .ok (.ldc_w 330, 3) := by decide +kernel
theorem dX10_stepsOn_229 : decode cX10_stepsOn 229 = .ok (.if_icmp .le 55, 3) := by decide +kernel
theorem dX10_stepsOn_232 : decode cX10_stepsOn 232 = .ok (.aload_n 0, 1) := by decide +kernel
theorem dX10_stepsOn_233 : decode cX10_stepsOn 233 = .ok (.getfield 53, 3) := by decide +kernel
theorem dX10_stepsOn_236 : decode cX10_stepsOn 236 = .ok (.iload 4, 2) := by decide +kernel
theorem dX10_stepsOn_238 : decode cX10_stepsOn 238 = .ok (.iaload, 1) := by decide +kernel
theorem dX10_stepsOn_239 : decode cX10_stepsOn 239 = .ok (.iload 5, 2) := by decide +kernel
theorem dX10_stepsOn_241 : decode cX10_stepsOn 241 = .ok (.isub, 1) := by decide +kernel
theorem dX10_stepsOn_242 : decode cX10_stepsOn 242 = .ok (.aload_n 0, 1) := by decide +kernel
theorem dX10_stepsOn_243 : decode cX10_stepsOn 243 = .ok (.getfield 53, 3) := by decide +kernel
theorem dX10_stepsOn_246 : decode cX10_stepsOn 246 = .ok (.bipush 9, 2) := by decide +kernel
theorem dX10_stepsOn_248 : decode cX10_stepsOn 248 = .ok (.iload_n 3, 1) := by decide +kernel
theorem dX10_stepsOn_249 : decode cX10_stepsOn 249 = .ok (.iadd, 1) := by decide +kernel
theorem dX10_stepsOn_250 : decode cX10_stepsOn 250 = .ok (.iaload, 1) := by decide +kernel
theorem dX10_stepsOn_251 : decode cX10_stepsOn 251 = .ok (.if_icmp .le 33, 3) := by decide +kernel
theorem dX10_stepsOn_254 : decode cX10_stepsOn 254 = .ok (.aload_n 0, 1) := by decide +kernel
theorem dX10_stepsOn_255 : decode cX10_stepsOn 255 = .ok (.getfield 53, 3) := by decide +kernel
theorem dX10_stepsOn_258 : decode cX10_stepsOn 258 = .ok (.bipush 9, 2) := by decide +kernel
theorem dX10_stepsOn_260 : decode cX10_stepsOn 260 = .ok (.iload_n 3, 1) := by decide +kernel
theorem dX10_stepsOn_261 : decode cX10_stepsOn 261 = .ok (.iadd, 1) := by decide +kernel
theorem dX10_stepsOn_262 : decode cX10_stepsOn 262 = .ok (.aload_n 0, 1) := by decide +kernel
theorem dX10_stepsOn_263 : decode cX10_stepsOn 263 = .ok (.getfield 53, 3) := by decide +kernel
theorem dX10_stepsOn_266 : decode cX10_stepsOn 266 = .ok (.iload 4, 2) := by decide +kernel
theorem dX10_stepsOn_268 : decode cX10_stepsOn 268 = .ok (.iaload, 1) := by decide +kernel
theorem dX10_stepsOn_269 : decode cX10_stepsOn 269 = .ok (.iload 5, 2) := by decide +kernel
theorem dX10_stepsOn_271 : decode cX10_stepsOn 271 = .ok (.isub, 1) := by decide +kernel
theorem dX10_stepsOn_272 : decode cX10_stepsOn 272 = .ok (.iastore, 1) := by decide +kernel
theorem dX10_stepsOn_273 : decode cX10_stepsOn 273 = .ok (.aload_n 0, 1) := by decide +kernel
theorem dX10_stepsOn_274 : decode cX10_stepsOn 274 = .ok (.getfield 56, 3) := by decide +kernel
theorem dX10_stepsOn_277 : decode cX10_stepsOn 277 = .ok (.bipush 9, 2) := by decide +kernel
theorem dX10_stepsOn_279 : decode cX10_stepsOn 279 = .ok (.iload_n 3, 1) := by decide +kernel
theorem dX10_stepsOn_280 : decode cX10_stepsOn 280 = .ok (.iadd, 1) := by decide +kernel
theorem dX10_stepsOn_281 : decode cX10_stepsOn 281 = .ok (.iload 4, 2) := by decide +kernel
theorem dX10_stepsOn_283 : decode cX10_stepsOn 283 = .ok (.iastore, 1) := by decide +kernel
theorem dX10_stepsOn_284 : decode cX10_stepsOn 284 = .ok (.iinc 4 1, 3) := by decide +kernel
theorem dX10_stepsOn_287 : decode cX10_stepsOn 287 = .ok (.goto (-196), 3) := by decide +kernel
theorem dX10_stepsOn_290 : decode cX10_stepsOn 290 = .ok (.iinc 3 1, 3) := by decide +kernel
theorem dX10_stepsOn_293 : decode cX10_stepsOn 293 = .ok (.goto (-215), 3) := by decide +kernel
theorem dX10_stepsOn_296 : decode cX10_stepsOn 296 = .ok (.iinc 2 1, 3) := by decide +kernel
theorem dX10_stepsOn_299 : decode cX10_stepsOn 299 = .ok (.goto (-229), 3) := by decide +kernel
theorem dX10_stepsOn_302 : decode cX10_stepsOn 302 = .ok (.iconst (-1), 1) := by decide +kernel
theorem dX10_stepsOn_303 : decode cX10_stepsOn 303 = .ok (.istore_n 2, 1) := by decide +kernel
theorem dX10_stepsOn_304 : decode cX10_stepsOn 304 = .ok (.iconst 0, 1) := by decide +kernel
theorem dX10_stepsOn_305 : decode cX10_stepsOn 305 = .ok (.istore_n 3, 1) := by decide +kernel
theorem dX10_stepsOn_306 : decode cX10_stepsOn 306 = .ok (.iload_n 3, 1) := by decide +kernel
theorem dX10_stepsOn_307 : decode cX10_stepsOn 307 = .ok (.aload_n 0, 1) := by decide +kernel
theorem dX10_stepsOn_308 : decode cX10_stepsOn 308 = .ok (.getfield 7, 3) := by decide +kernel
theorem dX10_stepsOn_311 : decode cX10_stepsOn 311 = .ok (.iconst 3, 1) := by decide +kernel
theorem dX10_stepsOn_312 : decode cX10_stepsOn 312 = .ok (.iaload, 1) := by decide +kernel
theorem dX10_stepsOn_313 : decode cX10_stepsOn 313 = .ok (.if_icmp .ge 55, 3) := by decide +kernel
theorem dX10_stepsOn_316 : decode cX10_stepsOn 316 = .ok (.aload_n 0, 1) := by decide +kernel
theorem dX10_stepsOn_317 : decode cX10_stepsOn 317 = .ok (.getfield 53, 3) := by decide +kernel
theorem dX10_stepsOn_320 : decode cX10_stepsOn 320 = .ok (.iload_n 3, 1) := by decide +kernel
theorem dX10_stepsOn_321 : decode cX10_stepsOn 321 = .ok (.iaload, 1) := by decide +kernel
theorem dX10_stepsOn_322 : decode cX10_stepsOn 322 = .ok (.ifCond .le 40, 3) := by decide +kernel
theorem dX10_stepsOn_325 : decode cX10_stepsOn 325 = .ok (.aload_n 0, 1) := by decide +kernel
theorem dX10_stepsOn_326 : decode cX10_stepsOn 326 = .ok (.getfield 41, 3) := by decide +kernel
theorem dX10_stepsOn_329 : decode cX10_stepsOn 329 = .ok (.iload_n 3, 1) := by decide +kernel
theorem dX10_stepsOn_330 : decode cX10_stepsOn 330 = .ok (.iaload, 1) := by decide +kernel
theorem dX10_stepsOn_331 : decode cX10_stepsOn 331 = .ok (.aload_n 0, 1) := by decide +kernel
theorem dX10_stepsOn_332 : decode cX10_stepsOn 332 = .ok (.getfield 50, 3) := by decide +kernel
theorem dX10_stepsOn_335 : decode cX10_stepsOn 335 = .ok (.iload_n 3, 1) := by decide +kernel
theorem dX10_stepsOn_336 : decode cX10_stepsOn 336 = .ok (.iaload, 1) := by decide +kernel
theorem dX10_stepsOn_337 : decode cX10_stepsOn 337 = .ok (.if_icmp .ge 25, 3) := by decide +kernel
theorem dX10_stepsOn_340 : decode cX10_stepsOn 340 = .ok (.iload_n 2, 1) := by decide +kernel
theorem dX10_stepsOn_341 : decode cX10_stepsOn 341 = .ok (.iconst (-1), 1) := by decide +kernel
theorem dX10_stepsOn_342 : decode cX10_stepsOn 342 = .ok (.if_icmp .eq 18, 3) := by decide +kernel
theorem dX10_stepsOn_345 : decode cX10_stepsOn 345 = .ok (.aload_n 0, 1) := by decide +kernel
theorem dX10_stepsOn_346 : decode cX10_stepsOn 346 = .ok (.getfield 53, 3) := by decide +kernel
theorem dX10_stepsOn_349 : decode cX10_stepsOn 349 = .ok (.iload_n 3, 1) := by decide +kernel
theorem dX10_stepsOn_350 : decode cX10_stepsOn 350 = .ok (.iaload, 1) := by decide +kernel
theorem dX10_stepsOn_351 : decode cX10_stepsOn 351 = .ok (.aload_n 0, 1) := by decide +kernel
theorem dX10_stepsOn_352 : decode cX10_stepsOn 352 = .ok (.getfield 53, 3) := by decide +kernel
theorem dX10_stepsOn_355 : decode cX10_stepsOn 355 = .ok (.iload_n 2, 1) := by decide +kernel
theorem dX10_stepsOn_356 : decode cX10_stepsOn 356 = .ok (.iaload, 1) := by decide +kernel
theorem dX10_stepsOn_357 : decode cX10_stepsOn 357 = .ok (.if_icmp .le 5, 3) := by decide +kernel
theorem dX10_stepsOn_360 : decode cX10_stepsOn 360 = .ok (.iload_n 3, 1) := by decide +kernel
theorem dX10_stepsOn_361 : decode cX10_stepsOn 361 = .ok (.istore_n 2, 1) := by decide +kernel
theorem dX10_stepsOn_362 : decode cX10_stepsOn 362 = .ok (.iinc 3 1, 3) := by decide +kernel
theorem dX10_stepsOn_365 : decode cX10_stepsOn 365 = .ok (.goto (-59), 3) := by decide +kernel
theorem dX10_stepsOn_368 : decode cX10_stepsOn 368 = .ok (.iload_n 2, 1) := by decide +kernel
theorem dX10_stepsOn_369 : decode cX10_stepsOn 369 = .ok (.iconst (-1), 1) := by decide +kernel
theorem dX10_stepsOn_370 : decode cX10_stepsOn 370 = .ok (.if_icmp .ne 5, 3) := by decide +kernel
theorem dX10_stepsOn_373 : decode cX10_stepsOn 373 = .ok (.iconst 0, 1) := by decide +kernel
theorem dX10_stepsOn_374 : decode cX10_stepsOn 374 = .ok (.ireturn, 1) := by decide +kernel
theorem dX10_stepsOn_375 : decode cX10_stepsOn 375 = .ok (.aload_n 0, 1) := by decide +kernel
theorem dX10_stepsOn_376 : decode cX10_stepsOn 376 = .ok (.getfield 53, 3) := by decide +kernel
theorem dX10_stepsOn_379 : decode cX10_stepsOn 379 = .ok (.iload_n 2, 1) := by decide +kernel
theorem dX10_stepsOn_380 : decode cX10_stepsOn 380 = .ok (.iaload, 1) := by decide +kernel
theorem dX10_stepsOn_381 : decode cX10_stepsOn 381 = .ok (.istore_n 3, 1) := by decide +kernel
theorem dX10_stepsOn_382 : decode cX10_stepsOn 382 = .ok (.aload_n 0, 1) := by decide +kernel
theorem dX10_stepsOn_383 : decode cX10_stepsOn 383 = .ok (.getfield 41, 3) := by decide +kernel
theorem dX10_stepsOn_386 : decode cX10_stepsOn 386 = .ok (.iload_n 2, 1) := by decide +kernel
theorem dX10_stepsOn_387 : decode cX10_stepsOn 387 = .ok (.dup2, 1) := by decide +kernel
theorem dX10_stepsOn_388 : decode cX10_stepsOn 388 = .ok (.iaload, 1) := by decide +kernel
theorem dX10_stepsOn_389 : decode cX10_stepsOn 389 = .ok (.iconst 1, 1) := by decide +kernel
theorem dX10_stepsOn_390 : decode cX10_stepsOn 390 = .ok (.iadd, 1) := by decide +kernel
theorem dX10_stepsOn_391 : decode cX10_stepsOn 391 = .ok (.iastore, 1) := by decide +kernel
theorem dX10_stepsOn_392 : decode cX10_stepsOn 392 = .ok (.iload_n 2, 1) := by decide +kernel
theorem dX10_stepsOn_393 : decode cX10_stepsOn 393 = .ok (.istore 4, 2) := by decide +kernel
theorem dX10_stepsOn_395 : decode cX10_stepsOn 395 = .ok (.iload 4, 2) := by decide +kernel
theorem dX10_stepsOn_397 : decode cX10_stepsOn 397 = .ok (.iconst (-1), 1) := by decide +kernel
theorem dX10_stepsOn_398 : decode cX10_stepsOn 398 = .ok (.if_icmp .eq 37, 3) := by decide +kernel
theorem dX10_stepsOn_401 : decode cX10_stepsOn 401 = .ok (.aload_n 0, 1) := by decide +kernel
theorem dX10_stepsOn_402 : decode cX10_stepsOn 402 = .ok (.getfield 56, 3) := by decide +kernel
theorem dX10_stepsOn_405 : decode cX10_stepsOn 405 = .ok (.iload 4, 2) := by decide +kernel
theorem dX10_stepsOn_407 : decode cX10_stepsOn 407 = .ok (.iaload, 1) := by decide +kernel
theorem dX10_stepsOn_408 : decode cX10_stepsOn 408 = .ok (.istore 5, 2) := by decide +kernel
theorem dX10_stepsOn_410 : decode cX10_stepsOn 410 = .ok (.aload_n 0, 1) := by decide +kernel
theorem dX10_stepsOn_411 : decode cX10_stepsOn 411 = .ok (.getfield 44, 3) := by decide +kernel
theorem dX10_stepsOn_414 : decode cX10_stepsOn 414 = .ok (.iload 5, 2) := by decide +kernel
theorem dX10_stepsOn_416 : decode cX10_stepsOn 416 = .ok (.iaload, 1) := by decide +kernel
theorem dX10_stepsOn_417 : decode cX10_stepsOn 417 = .ok (.istore 6, 2) := by decide +kernel
theorem dX10_stepsOn_419 : decode cX10_stepsOn 419 = .ok (.aload_n 0, 1) := by decide +kernel
theorem dX10_stepsOn_420 : decode cX10_stepsOn 420 = .ok (.getfield 44, 3) := by decide +kernel
theorem dX10_stepsOn_423 : decode cX10_stepsOn 423 = .ok (.iload 5, 2) := by decide +kernel
theorem dX10_stepsOn_425 : decode cX10_stepsOn 425 = .ok (.iload 4, 2) := by decide +kernel
theorem dX10_stepsOn_427 : decode cX10_stepsOn 427 = .ok (.iastore, 1) := by decide +kernel
theorem dX10_stepsOn_428 : decode cX10_stepsOn 428 = .ok (.iload 6, 2) := by decide +kernel
theorem dX10_stepsOn_430 : decode cX10_stepsOn 430 = .ok (.istore 4, 2) := by decide +kernel
theorem dX10_stepsOn_432 : decode cX10_stepsOn 432 = .ok (.goto (-37), 3) := by decide +kernel
theorem dX10_stepsOn_435 : decode cX10_stepsOn 435 = .ok (.iload_n 3, 1) := by decide +kernel
theorem dX10_stepsOn_436 : decode cX10_stepsOn 436 = .ok (.ireturn, 1) := by decide +kernel
theorem dX10_dearest_0 : decode cX10_dearest 0 = .ok (.aload_n 0, 1) := by decide +kernel
theorem dX10_dearest_1 : decode cX10_dearest 1 = .ok (.iload_n 1, 1) := by decide +kernel
theorem dX10_dearest_2 : decode cX10_dearest 2 = .ok (.iconst (-1), 1) := by decide +kernel
theorem dX10_dearest_3 : decode cX10_dearest 3 = .ok (.if_icmp .eq 15, 3) := by decide +kernel
theorem dX10_dearest_6 : decode cX10_dearest 6 = .ok (.aload_n 0, 1) := by decide +kernel
theorem dX10_dearest_7 : decode cX10_dearest 7 = .ok (.iload_n 1, 1) := by decide +kernel
theorem dX10_dearest_8 : decode cX10_dearest 8 = .ok (.invokevirtual 300, 3) := by decide +kernel
theorem dX10_dearest_11 : decode cX10_dearest 11 = .ok (.ifCond .ne 7, 3) := by decide +kernel
theorem dX10_dearest_14 : decode cX10_dearest 14 = .ok (.iconst 1, 1) := by decide +kernel
theorem dX10_dearest_15 : decode cX10_dearest 15 = .ok (.goto 4, 3) := by decide +kernel
theorem dX10_dearest_18 : decode cX10_dearest 18 = .ok (.iconst 0, 1) := by decide +kernel
theorem dX10_dearest_19 : decode cX10_dearest 19 = .ok (.putfield 63, 3) := by decide +kernel
theorem dX10_dearest_22 : decode cX10_dearest 22 = .ok (.aload_n 0, 1) := by decide +kernel
theorem dX10_dearest_23 : decode cX10_dearest 23 = .ok (.getfield 63, 3) := by decide +kernel
theorem dX10_dearest_26 : decode cX10_dearest 26 = .ok (.ifCond .le 5, 3) := by decide +kernel
theorem dX10_dearest_29 : decode cX10_dearest 29 = .ok (.iconst 0, 1) := by decide +kernel
theorem dX10_dearest_30 : decode cX10_dearest 30 = .ok (.ireturn, 1) := by decide +kernel
theorem dX10_dearest_31 : decode cX10_dearest 31 = .ok (.aload_n 0, 1) := by decide +kernel
theorem dX10_dearest_32 : decode cX10_dearest 32 = .ok (.invokevirtual 318, 3) := by decide +kernel
theorem dX10_dearest_35 : decode cX10_dearest 35 = .ok (.iconst 0, 1) := by decide +kernel
theorem dX10_dearest_36 : decode cX10_dearest 36 = .ok (.istore_n 2, 1) := by decide +kernel
theorem dX10_dearest_37 : decode cX10_dearest 37 = .ok (.iload_n 2, 1) := by decide +kernel
theorem dX10_dearest_38 : decode cX10_dearest 38 = .ok (.aload_n 0, 1) := by decide +kernel
theorem dX10_dearest_39 : decode cX10_dearest 39 = .ok (.getfield 7, 3) := by decide +kernel
theorem dX10_dearest_42 : decode cX10_dearest 42 = .ok (.iconst 3, 1) := by decide +kernel
theorem dX10_dearest_43 : decode cX10_dearest 43 = .ok (.iaload, 1) := by decide +kernel
theorem dX10_dearest_44 : decode cX10_dearest 44 = .ok (.if_icmp .ge 21, 3) := by decide +kernel
theorem dX10_dearest_47 : decode cX10_dearest 47 = .ok (.aload_n 0, 1) := by decide +kernel
theorem dX10_dearest_48 : decode cX10_dearest 48 = .ok (.getfield 50, 3) := by decide +kernel
theorem dX10_dearest_51 : decode cX10_dearest 51 = .ok (.iload_n 2, 1) := by decide +kernel
theorem dX10_dearest_52 : decode cX10_dearest 52 = .ok (.aload_n 0, 1) := by decide +kernel
theorem dX10_dearest_53 : decode cX10_dearest 53 = .ok (.iload_n 2, 1) := by decide +kernel
theorem dX10_dearest_54 : decode cX10_dearest 54 = .ok (.iconst 2, 1) := by decide +kernel
theorem dX10_dearest_55 : decode cX10_dearest 55 = .ok (.invokevirtual 70, 3) := by decide +kernel
theorem dX10_dearest_58 : decode cX10_dearest 58 = .ok (.iastore, 1) := by decide +kernel
theorem dX10_dearest_59 : decode cX10_dearest 59 = .ok (.iinc 2 1, 3) := by decide +kernel
theorem dX10_dearest_62 : decode cX10_dearest 62 = .ok (.goto (-25), 3) := by decide +kernel
theorem dX10_dearest_65 : decode cX10_dearest 65 = .ok (.aload_n 0, 1) := by decide +kernel
theorem dX10_dearest_66 : decode cX10_dearest 66 = .ok (.iconst 0, 1) := by decide +kernel
theorem dX10_dearest_67 : decode cX10_dearest 67 = .ok (.invokevirtual 331, 3) := by decide +kernel
theorem dX10_dearest_70 : decode cX10_dearest 70 = .ok (.istore_n 2, 1) := by decide +kernel
theorem dX10_dearest_71 : decode cX10_dearest 71 = .ok (.iload_n 1, 1) := by decide +kernel
theorem dX10_dearest_72 : decode cX10_dearest 72 = .ok (.iconst (-1), 1) := by decide +kernel
theorem dX10_dearest_73 : decode cX10_dearest 73 = .ok (.if_icmp .ne 5, 3) := by decide +kernel
theorem dX10_dearest_76 : decode cX10_dearest 76 = .ok (.iload_n 2, 1) := by decide +kernel
theorem dX10_dearest_77 : decode cX10_dearest 77 = .ok (.ireturn, 1) := by decide +kernel
theorem dX10_dearest_78 : decode cX10_dearest 78 = .ok (.iconst 0, 1) := by decide +kernel
theorem dX10_dearest_79 : decode cX10_dearest 79 = .ok (.istore_n 3, 1) := by decide +kernel
theorem dX10_dearest_80 : decode cX10_dearest 80 = .ok (.iload_n 3, 1) := by decide +kernel
theorem dX10_dearest_81 : decode cX10_dearest 81 = .ok (.iload_n 1, 1) := by decide +kernel
theorem dX10_dearest_82 : decode cX10_dearest 82 = .ok (.if_icmp .gt 74, 3) := by decide +kernel
theorem dX10_dearest_85 : decode cX10_dearest 85 = .ok (.iconst (-1), 1) := by decide +kernel
theorem dX10_dearest_86 : decode cX10_dearest 86 = .ok (.istore 4, 2) := by decide +kernel
theorem dX10_dearest_88 : decode cX10_dearest 88 = .ok (.aload_n 0, 1) := by decide +kernel
theorem dX10_dearest_89 : decode cX10_dearest 89 = .ok (.iload_n 3, 1) := by decide +kernel
theorem dX10_dearest_90 : decode cX10_dearest 90 = .ok (.iconst 1, 1) := by decide +kernel
theorem dX10_dearest_91 : decode cX10_dearest 91 = .ok (.iadd, 1) := by decide +kernel
theorem dX10_dearest_92 : decode cX10_dearest 92 = .ok (.invokevirtual 331, 3) := by decide +kernel
theorem dX10_dearest_95 : decode cX10_dearest 95 = .ok (.iload_n 2, 1) := by decide +kernel
theorem dX10_dearest_96 : decode cX10_dearest 96 = .ok (.if_icmp .eq 11, 3) := by decide +kernel
theorem dX10_dearest_99 : decode cX10_dearest 99 = .ok (.aload_n 0, 1) := by decide +kernel
theorem dX10_dearest_100 : decode cX10_dearest 100 = .ok (.iload_n 3, 1) := by decide +kernel
theorem dX10_dearest_101 : decode cX10_dearest 101 = .ok (.iload_n 2, 1) := by decide +kernel
theorem dX10_dearest_102 : decode cX10_dearest 102 = .ok (.invokevirtual 334, 3) := by decide +kernel
theorem dX10_dearest_105 : decode cX10_dearest 105 = .ok (.istore 4, 2) := by decide +kernel
theorem dX10_dearest_107 : decode cX10_dearest 107 = .ok (.iload_n 3, 1) := by decide +kernel
theorem dX10_dearest_108 : decode cX10_dearest 108 = .ok (.iload_n 1, 1) := by decide +kernel
theorem dX10_dearest_109 : decode cX10_dearest 109 = .ok (.if_icmp .ne 6, 3) := by decide +kernel
theorem dX10_dearest_112 : decode cX10_dearest 112 = .ok (.iload 4, 2) := by decide +kernel
theorem dX10_dearest_114 : decode cX10_dearest 114 = .ok (.ireturn, 1) := by decide +kernel
theorem dX10_dearest_115 : decode cX10_dearest 115 = .ok (.iload 4, 2) := by decide +kernel
theorem dX10_dearest_117 : decode cX10_dearest 117 = .ok (.iconst (-1), 1) := by decide +kernel
theorem dX10_dearest_118 : decode cX10_dearest 118 = .ok (.if_icmp .ne 6, 3) := by decide +kernel
theorem dX10_dearest_121 : decode cX10_dearest 121 = .ok (.goto 29, 3) := by decide +kernel
theorem dX10_dearest_124 : decode cX10_dearest 124 = .ok (.iload_n 2, 1) := by decide +kernel
theorem dX10_dearest_125 : decode cX10_dearest 125 = .ok (.aload_n 0, 1) := by decide +kernel
theorem dX10_dearest_126 : decode cX10_dearest 126 = .ok (.getfield 32, 3) := by decide +kernel
theorem dX10_dearest_129 : decode cX10_dearest 129 = .ok (.bipush 10, 2) := by decide +kernel
theorem dX10_dearest_131 : decode cX10_dearest 131 = .ok (.iload 4, 2) := by decide +kernel
theorem dX10_dearest_133 : decode cX10_dearest 133 = .ok (.imul, 1) := by decide +kernel
theorem dX10_dearest_134 : decode cX10_dearest 134 = .ok (.iload_n 3, 1) := by decide +kernel
theorem dX10_dearest_135 : decode cX10_dearest 135 = .ok (.iadd, 1) := by decide +kernel
theorem dX10_dearest_136 : decode cX10_dearest 136 = .ok (.iaload, 1) := by decide +kernel
theorem dX10_dearest_137 : decode cX10_dearest 137 = .ok (.isub, 1) := by decide +kernel
theorem dX10_dearest_138 : decode cX10_dearest 138 = .ok (.istore_n 2, 1) := by decide +kernel
theorem dX10_dearest_139 : decode cX10_dearest 139 = .ok (.aload_n 0, 1) := by decide +kernel
theorem dX10_dearest_140 : decode cX10_dearest 140 = .ok (.getfield 50, 3) := by decide +kernel
theorem dX10_dearest_143 : decode cX10_dearest 143 = .ok (.iload 4, 2) := by decide +kernel
theorem dX10_dearest_145 : decode cX10_dearest 145 = .ok (.dup2, 1) := by decide +kernel
theorem dX10_dearest_146 : decode cX10_dearest 146 = .ok (.iaload, 1) := by decide +kernel
theorem dX10_dearest_147 : decode cX10_dearest 147 = .ok (.iconst 1, 1) := by decide +kernel
theorem dX10_dearest_148 : decode cX10_dearest 148 = .ok (.isub, 1) := by decide +kernel
theorem dX10_dearest_149 : decode cX10_dearest 149 = .ok (.iastore, 1) := by decide +kernel
theorem dX10_dearest_150 : decode cX10_dearest 150 = .ok (.iinc 3 1, 3) := by decide +kernel
theorem dX10_dearest_153 : decode cX10_dearest 153 = .ok (.goto (-73), 3) := by decide +kernel
theorem dX10_dearest_156 : decode cX10_dearest 156 = .ok (.iconst (-1), 1) := by decide +kernel
theorem dX10_dearest_157 : decode cX10_dearest 157 = .ok (.ireturn, 1) := by decide +kernel
theorem dX10_firstFor_0 : decode cX10_firstFor 0 = .ok (.iconst 0, 1) := by decide +kernel
theorem dX10_firstFor_1 : decode cX10_firstFor 1 = .ok (.istore_n 3, 1) := by decide +kernel
theorem dX10_firstFor_2 : decode cX10_firstFor 2 = .ok (.iload_n 3, 1) := by decide +kernel
theorem dX10_firstFor_3 : decode cX10_firstFor 3 = .ok (.aload_n 0, 1) := by decide +kernel
theorem dX10_firstFor_4 : decode cX10_firstFor 4 = .ok (.getfield 7, 3) := by decide +kernel
theorem dX10_firstFor_7 : decode cX10_firstFor 7 = .ok (.iconst 3, 1) := by decide +kernel
theorem dX10_firstFor_8 : decode cX10_firstFor 8 = .ok (.iaload, 1) := by decide +kernel
theorem dX10_firstFor_9 : decode cX10_firstFor 9 = .ok (.if_icmp .ge 91, 3) := by decide +kernel
theorem dX10_firstFor_12 : decode cX10_firstFor 12 = .ok (.aload_n 0, 1) := by decide +kernel
theorem dX10_firstFor_13 : decode cX10_firstFor 13 = .ok (.getfield 47, 3) := by decide +kernel
theorem dX10_firstFor_16 : decode cX10_firstFor 16 = .ok (.iload_n 1, 1) := by decide +kernel
theorem dX10_firstFor_17 : decode cX10_firstFor 17 = .ok (.iaload, 1) := by decide +kernel
theorem dX10_firstFor_18 : decode cX10_firstFor 18 = .ok (.iload_n 3, 1) := by decide +kernel
theorem dX10_firstFor_19 : decode cX10_firstFor 19 = .ok (.invokestatic 117, 3) := by decide +kernel
theorem dX10_firstFor_22 : decode cX10_firstFor 22 = .ok (.ifCond .eq 72, 3) := by decide +kernel
theorem dX10_firstFor_25 : decode cX10_firstFor 25 = .ok (.aload_n 0, 1) := by decide +kernel
theorem dX10_firstFor_26 : decode cX10_firstFor 26 = .ok (.getfield 50, 3) := by decide +kernel
theorem dX10_firstFor_29 : decode cX10_firstFor 29 = .ok (.iload_n 3, 1) := by decide +kernel
theorem dX10_firstFor_30 : decode cX10_firstFor 30 = .ok (.iaload, 1) := by decide +kernel
theorem dX10_firstFor_31 : decode cX10_firstFor 31 = .ok (.ifCond .ne 6, 3) := by decide +kernel
theorem dX10_firstFor_34 : decode cX10_firstFor 34 = .ok (.goto 60, 3) := by decide +kernel
theorem dX10_firstFor_37 : decode cX10_firstFor 37 = .ok (.aload_n 0, 1) := by decide +kernel
theorem dX10_firstFor_38 : decode cX10_firstFor 38 = .ok (.getfield 50, 3) := by decide +kernel
theorem dX10_firstFor_41 : decode cX10_firstFor 41 = .ok (.iload_n 3, 1) := by decide +kernel
theorem dX10_firstFor_42 : decode cX10_firstFor 42 = .ok (.dup2, 1) := by decide +kernel
theorem dX10_firstFor_43 : decode cX10_firstFor 43 = .ok (.iaload, 1) := by decide +kernel
theorem dX10_firstFor_44 : decode cX10_firstFor 44 = .ok (.iconst 1, 1) := by decide +kernel
theorem dX10_firstFor_45 : decode cX10_firstFor 45 = .ok (.isub, 1) := by decide +kernel
theorem dX10_firstFor_46 : decode cX10_firstFor 46 = .ok (.iastore, 1) := by decide +kernel
theorem dX10_firstFor_47 : decode cX10_firstFor 47 = .ok (.aload_n 0, 1) := by decide +kernel
theorem dX10_firstFor_48 : decode cX10_firstFor 48 = .ok (.iload_n 1, 1) := by decide +kernel
theorem dX10_firstFor_49 : decode cX10_firstFor 49 = .ok (.iconst 1, 1) := by decide +kernel
theorem dX10_firstFor_50 : decode cX10_firstFor 50 = .ok (.iadd, 1) := by decide +kernel
theorem dX10_firstFor_51 : decode cX10_firstFor 51 = .ok (.invokevirtual 331, 3) := by decide +kernel
theorem dX10_firstFor_54 : decode cX10_firstFor 54 = .ok (.aload_n 0, 1) := by decide +kernel
theorem dX10_firstFor_55 : decode cX10_firstFor 55 = .ok (.getfield 32, 3) := by decide +kernel
theorem dX10_firstFor_58 : decode cX10_firstFor 58 = .ok (.bipush 10, 2) := by decide +kernel
theorem dX10_firstFor_60 : decode cX10_firstFor 60 = .ok (.iload_n 3, 1) := by decide +kernel
theorem dX10_firstFor_61 : decode cX10_firstFor 61 = .ok (.imul, 1) := by decide +kernel
theorem dX10_firstFor_62 : decode cX10_firstFor 62 = .ok (.iload_n 1, 1) := by decide +kernel
theorem dX10_firstFor_63 : decode cX10_firstFor 63 = .ok (.iadd, 1) := by decide +kernel
theorem dX10_firstFor_64 : decode cX10_firstFor 64 = .ok (.iaload, 1) := by decide +kernel
theorem dX10_firstFor_65 : decode cX10_firstFor 65 = .ok (.iadd, 1) := by decide +kernel
theorem dX10_firstFor_66 : decode cX10_firstFor 66 = .ok (.iload_n 2, 1) := by decide +kernel
theorem dX10_firstFor_67 : decode cX10_firstFor 67 = .ok (.if_icmp .ne 7, 3) := by decide +kernel
theorem dX10_firstFor_70 : decode cX10_firstFor 70 = .ok (.iconst 1, 1) := by decide +kernel
theorem dX10_firstFor_71 : decode cX10_firstFor 71 = .ok (.goto 4, 3) := by decide +kernel
theorem dX10_firstFor_74 : decode cX10_firstFor 74 = .ok (.iconst 0, 1) := by decide +kernel
theorem dX10_firstFor_75 : decode cX10_firstFor 75 = .ok (.istore 4, 2) := by decide +kernel
theorem dX10_firstFor_77 : decode cX10_firstFor 77 = .ok (.aload_n 0, 1) := by decide +kernel
theorem dX10_firstFor_78 : decode cX10_firstFor 78 = .ok (.getfield 50, 3) := by decide +kernel
theorem dX10_firstFor_81 : decode cX10_firstFor 81 = .ok (.iload_n 3, 1) := by decide +kernel
theorem dX10_firstFor_82 : decode cX10_firstFor 82 = .ok (.dup2, 1) := by decide +kernel
theorem dX10_firstFor_83 : decode cX10_firstFor 83 = .ok (.iaload, 1) := by decide +kernel
theorem dX10_firstFor_84 : decode cX10_firstFor 84 = .ok (.iconst 1, 1) := by decide +kernel
theorem dX10_firstFor_85 : decode cX10_firstFor 85 = .ok (.iadd, 1) := by decide +kernel
theorem dX10_firstFor_86 : decode cX10_firstFor 86 = .ok (.iastore, 1) := by decide +kernel
theorem dX10_firstFor_87 : decode cX10_firstFor 87 = .ok (.iload 4, 2) := by decide +kernel
theorem dX10_firstFor_89 : decode cX10_firstFor 89 = .ok (.ifCond .eq 5, 3) := by decide +kernel
theorem dX10_firstFor_92 : decode cX10_firstFor 92 = .ok (.iload_n 3, 1) := by decide +kernel
theorem dX10_firstFor_93 : decode cX10_firstFor 93 = .ok (.ireturn, 1) := by decide +kernel
theorem dX10_firstFor_94 : decode cX10_firstFor 94 = .ok (.iinc 3 1, 3) := by decide +kernel
theorem dX10_firstFor_97 : decode cX10_firstFor 97 = .ok (.goto (-95), 3) := by decide +kernel
theorem dX10_firstFor_100 : decode cX10_firstFor 100 = .ok (.iconst (-1), 1) := by decide +kernel
theorem dX10_firstFor_101 : decode cX10_firstFor 101 = .ok (.ireturn, 1) := by decide +kernel
theorem dX10_swap_0 : decode cX10_swap 0 = .ok (.aload_n 0, 1) := by decide +kernel
theorem dX10_swap_1 : decode cX10_swap 1 = .ok (.iload_n 1, 1) := by decide +kernel
theorem dX10_swap_2 : decode cX10_swap 2 = .ok (.iconst 0, 1) := by decide +kernel
theorem dX10_swap_3 : decode cX10_swap 3 = .ok (.invokevirtual 70, 3) := by decide +kernel
theorem dX10_swap_6 : decode cX10_swap 6 = .ok (.istore_n 3, 1) := by decide +kernel
theorem dX10_swap_7 : decode cX10_swap 7 = .ok (.aload_n 0, 1) := by decide +kernel
theorem dX10_swap_8 : decode cX10_swap 8 = .ok (.getfield 7, 3) := by decide +kernel
theorem dX10_swap_11 : decode cX10_swap 11 = .ok (.bipush 12, 2) := by decide +kernel
theorem dX10_swap_13 : decode cX10_swap 13 = .ok (.iconst 5, 1) := by decide +kernel
theorem dX10_swap_14 : decode cX10_swap 14 = .ok (.iload_n 1, 1) := by decide +kernel
theorem dX10_swap_15 : decode cX10_swap 15 = .ok (.imul, 1) := by decide +kernel
theorem dX10_swap_16 : decode cX10_swap 16 = .ok (.iadd, 1) := by decide +kernel
theorem dX10_swap_17 : decode cX10_swap 17 = .ok (.iconst 0, 1) := by decide +kernel
theorem dX10_swap_18 : decode cX10_swap 18 = .ok (.iadd, 1) := by decide +kernel
theorem dX10_swap_19 : decode cX10_swap 19 = .ok (.aload_n 0, 1) := by decide +kernel
theorem dX10_swap_20 : decode cX10_swap 20 = .ok (.iload_n 2, 1) := by decide +kernel
theorem dX10_swap_21 : decode cX10_swap 21 = .ok (.iconst 0, 1) := by decide +kernel
theorem dX10_swap_22 : decode cX10_swap 22 = .ok (.invokevirtual 70, 3) := by decide +kernel
theorem dX10_swap_25 : decode cX10_swap 25 = .ok (.iastore, 1) := by decide +kernel
theorem dX10_swap_26 : decode cX10_swap 26 = .ok (.aload_n 0, 1) := by decide +kernel
theorem dX10_swap_27 : decode cX10_swap 27 = .ok (.getfield 7, 3) := by decide +kernel
theorem dX10_swap_30 : decode cX10_swap 30 = .ok (.bipush 12, 2) := by decide +kernel
theorem dX10_swap_32 : decode cX10_swap 32 = .ok (.iconst 5, 1) := by decide +kernel
theorem dX10_swap_33 : decode cX10_swap 33 = .ok (.iload_n 2, 1) := by decide +kernel
theorem dX10_swap_34 : decode cX10_swap 34 = .ok (.imul, 1) := by decide +kernel
theorem dX10_swap_35 : decode cX10_swap 35 = .ok (.iadd, 1) := by decide +kernel
theorem dX10_swap_36 : decode cX10_swap 36 = .ok (.iconst 0, 1) := by decide +kernel
theorem dX10_swap_37 : decode cX10_swap 37 = .ok (.iadd, 1) := by decide +kernel
theorem dX10_swap_38 : decode cX10_swap 38 = .ok (.iload_n 3, 1) := by decide +kernel
theorem dX10_swap_39 : decode cX10_swap 39 = .ok (.iastore, 1) := by decide +kernel
theorem dX10_swap_40 : decode cX10_swap 40 = .ok (.return_, 1) := by decide +kernel
theorem dX10_change_0 : decode cX10_change 0 = .ok (.aload_n 0, 1) := by decide +kernel
theorem dX10_change_1 : decode cX10_change 1 = .ok (.iconst 0, 1) := by decide +kernel
theorem dX10_change_2 : decode cX10_change 2 = .ok (.putfield 63, 3) := by decide +kernel
theorem dX10_change_5 : decode cX10_change 5 = .ok (.aload_n 0, 1) := by decide +kernel
theorem dX10_change_6 : decode cX10_change 6 = .ok (.invokevirtual 288, 3) := by decide +kernel
theorem dX10_change_9 : decode cX10_change 9 = .ok (.aload_n 0, 1) := by decide +kernel
theorem dX10_change_10 : decode cX10_change 10 = .ok (.invokevirtual 312, 3) := by decide +kernel
theorem dX10_change_13 : decode cX10_change 13 = .ok (.invokestatic 321, 3) := by decide +kernel
theorem dX10_change_16 : decode cX10_change 16 = .ok (.istore_n 2, 1) := by decide +kernel
theorem dX10_change_17 : decode cX10_change 17 = .ok (.iconst (-1), 1) := by decide +kernel
theorem dX10_change_18 : decode cX10_change 18 = .ok (.istore_n 3, 1) := by decide +kernel
theorem dX10_change_19 : decode cX10_change 19 = .ok (.iconst 0, 1) := by decide +kernel
theorem dX10_change_20 : decode cX10_change 20 = .ok (.istore 4, 2) := by decide +kernel
theorem dX10_change_22 : decode cX10_change 22 = .ok (.iload 4, 2) := by decide +kernel
theorem dX10_change_24 : decode cX10_change 24 = .ok (.aload_n 0, 1) := by decide +kernel
theorem dX10_change_25 : decode cX10_change 25 = .ok (.getfield 7, 3) := by decide +kernel
theorem dX10_change_28 : decode cX10_change 28 = .ok (.iconst 3, 1) := by decide +kernel
theorem dX10_change_29 : decode cX10_change 29 = .ok (.iaload, 1) := by decide +kernel
theorem dX10_change_30 : decode cX10_change 30 = .ok (.if_icmp .ge 82, 3) := by decide +kernel
theorem dX10_change_33 : decode cX10_change 33 = .ok (.iload 4, 2) := by decide +kernel
theorem dX10_change_35 : decode cX10_change 35 = .ok (.iconst 1, 1) := by decide +kernel
theorem dX10_change_36 : decode cX10_change 36 = .ok (.iadd, 1) := by decide +kernel
theorem dX10_change_37 : decode cX10_change 37 = .ok (.istore 5, 2) := by decide +kernel
theorem dX10_change_39 : decode cX10_change 39 = .ok (.iload 5, 2) := by decide +kernel
theorem dX10_change_41 : decode cX10_change 41 = .ok (.aload_n 0, 1) := by decide +kernel
theorem dX10_change_42 : decode cX10_change 42 = .ok (.getfield 7, 3) := by decide +kernel
theorem dX10_change_45 : decode cX10_change 45 = .ok (.iconst 3, 1) := by decide +kernel
theorem dX10_change_46 : decode cX10_change 46 = .ok (.iaload, 1) := by decide +kernel
theorem dX10_change_47 : decode cX10_change 47 = .ok (.if_icmp .ge 59, 3) := by decide +kernel
theorem dX10_change_50 : decode cX10_change 50 = .ok (.aload_n 0, 1) := by decide +kernel
theorem dX10_change_51 : decode cX10_change 51 = .ok (.iload 4, 2) := by decide +kernel
theorem dX10_change_53 : decode cX10_change 53 = .ok (.iload 5, 2) := by decide +kernel
theorem dX10_change_55 : decode cX10_change 55 = .ok (.invokevirtual 337, 3) := by decide +kernel
theorem dX10_change_58 : decode cX10_change 58 = .ok (.aload_n 0, 1) := by decide +kernel
theorem dX10_change_59 : decode cX10_change 59 = .ok (.invokevirtual 288, 3) := by decide +kernel
theorem dX10_change_62 : decode cX10_change 62 = .ok (.aload_n 0, 1) := by decide +kernel
theorem dX10_change_63 : decode cX10_change 63 = .ok (.iload 4, 2) := by decide +kernel
theorem dX10_change_65 : decode cX10_change 65 = .ok (.iload 5, 2) := by decide +kernel
theorem dX10_change_67 : decode cX10_change 67 = .ok (.invokevirtual 337, 3) := by decide +kernel
theorem dX10_change_70 : decode cX10_change 70 = .ok (.aload_n 0, 1) := by decide +kernel
theorem dX10_change_71 : decode cX10_change 71 = .ok (.invokevirtual 312, 3) := by decide +kernel
theorem dX10_change_74 : decode cX10_change 74 = .ok (.invokestatic 321, 3) := by decide +kernel
theorem dX10_change_77 : decode cX10_change 77 = .ok (.istore 6, 2) := by decide +kernel
theorem dX10_change_79 : decode cX10_change 79 = .ok (.iload 6, 2) := by decide +kernel
theorem dX10_change_81 : decode cX10_change 81 = .ok (.iload_n 2, 1) := by decide +kernel
theorem dX10_change_82 : decode cX10_change 82 = .ok (.if_icmp .gt 6, 3) := by decide +kernel
theorem dX10_change_85 : decode cX10_change 85 = .ok (.goto 15, 3) := by decide +kernel
theorem dX10_change_88 : decode cX10_change 88 = .ok (.iload 6, 2) := by decide +kernel
theorem dX10_change_90 : decode cX10_change 90 = .ok (.istore_n 2, 1) := by decide +kernel
theorem dX10_change_91 : decode cX10_change 91 = .ok (.bipush 10, 2) := by decide +kernel
theorem dX10_change_93 : decode cX10_change 93 = .ok (.iload 4, 2) := by decide +kernel
theorem dX10_change_95 : decode cX10_change 95 = .ok (.imul, 1) := by decide +kernel
theorem dX10_change_96 : decode cX10_change 96 = .ok (.iload 5, 2) := by decide +kernel
theorem dX10_change_98 : decode cX10_change 98 = .ok (.iadd, 1) := by decide +kernel
theorem dX10_change_99 : decode cX10_change 99 = .ok (.istore_n 3, 1) := by decide +kernel
theorem dX10_change_100 : decode cX10_change 100 = .ok (.iinc 5 1, 3) := by decide +kernel
theorem dX10_change_103 : decode cX10_change 103 = .ok (.goto (-64), 3) := by decide +kernel
theorem dX10_change_106 : decode cX10_change 106 = .ok (.iinc 4 1, 3) := by decide +kernel
theorem dX10_change_109 : decode cX10_change 109 = .ok (.goto (-87), 3) := by decide +kernel
theorem dX10_change_112 : decode cX10_change 112 = .ok (.iload_n 1, 1) := by decide +kernel
theorem dX10_change_113 : decode cX10_change 113 = .ok (.ifCond .eq 7, 3) := by decide +kernel
theorem dX10_change_116 : decode cX10_change 116 = .ok (.iload_n 2, 1) := by decide +kernel
theorem dX10_change_117 : decode cX10_change 117 = .ok (.goto 4, 3) := by decide +kernel
theorem dX10_change_120 : decode cX10_change 120 = .ok (.iload_n 3, 1) := by decide +kernel
theorem dX10_change_121 : decode cX10_change 121 = .ok (.ireturn, 1) := by decide +kernel
theorem dX10_right_0 : decode cX10_right 0 = .ok (.aload_n 0, 1) := by decide +kernel
theorem dX10_right_1 : decode cX10_right 1 = .ok (.aload_n 0, 1) := by decide +kernel
theorem dX10_right_2 : decode cX10_right 2 = .ok (.iload_n 1, 1) := by decide +kernel
theorem dX10_right_3 : decode cX10_right 3 = .ok (.invokevirtual 285, 3) := by decide +kernel
theorem dX10_right_6 : decode cX10_right 6 = .ok (.ifCond .ne 7, 3) := by decide +kernel
theorem dX10_right_9 : decode cX10_right 9 = .ok (.iconst 1, 1) := by decide +kernel
theorem dX10_right_10 : decode cX10_right 10 = .ok (.goto 4, 3) := by decide +kernel
theorem dX10_right_13 : decode cX10_right 13 = .ok (.iconst 0, 1) := by decide +kernel
theorem dX10_right_14 : decode cX10_right 14 = .ok (.putfield 63, 3) := by decide +kernel
theorem dX10_right_17 : decode cX10_right 17 = .ok (.aload_n 0, 1) := by decide +kernel
theorem dX10_right_18 : decode cX10_right 18 = .ok (.getfield 63, 3) := by decide +kernel
theorem dX10_right_21 : decode cX10_right 21 = .ok (.ifCond .le 5, 3) := by decide +kernel
theorem dX10_right_24 : decode cX10_right 24 = .ok (.iconst 0, 1) := by decide +kernel
theorem dX10_right_25 : decode cX10_right 25 = .ok (.ireturn, 1) := by decide +kernel
theorem dX10_right_26 : decode cX10_right 26 = .ok (.aload_n 0, 1) := by decide +kernel
theorem dX10_right_27 : decode cX10_right 27 = .ok (.iload_n 1, 1) := by decide +kernel
theorem dX10_right_28 : decode cX10_right 28 = .ok (.iconst 1, 1) := by decide +kernel
theorem dX10_right_29 : decode cX10_right 29 = .ok (.invokevirtual 70, 3) := by decide +kernel
theorem dX10_right_32 : decode cX10_right 32 = .ok (.istore_n 3, 1) := by decide +kernel
theorem dX10_right_33 : decode cX10_right 33 = .ok (.aload_n 0, 1) := by decide +kernel
theorem dX10_right_34 : decode cX10_right 34 = .ok (.invokevirtual 272, 3) := by decide +kernel
theorem dX10_right_37 : decode cX10_right 37 = .ok (.iconst 0, 1) := by decide +kernel
theorem dX10_right_38 : decode cX10_right 38 = .ok (.istore 4, 2) := by decide +kernel
theorem dX10_right_40 : decode cX10_right 40 = .ok (.iconst (-1), 1) := by decide +kernel
theorem dX10_right_41 : decode cX10_right 41 = .ok (.istore 5, 2) := by decide +kernel
theorem dX10_right_43 : decode cX10_right 43 = .ok (.iconst 0, 1) := by decide +kernel
theorem dX10_right_44 : decode cX10_right 44 = .ok (.istore 6, 2) := by decide +kernel
theorem dX10_right_46 : decode cX10_right 46 = .ok (.iload 6, 2) := by decide +kernel
theorem dX10_right_48 : decode cX10_right 48 = .ok (.bipush 99, 2) := by decide +kernel
theorem dX10_right_50 : decode cX10_right 50 = .ok (.if_icmp .gt 102, 3) := by decide +kernel
theorem dX10_right_53 : decode cX10_right 53 = .ok (.aload_n 0, 1) := by decide +kernel
theorem dX10_right_54 : decode cX10_right 54 = .ok (.getfield 7, 3) := by decide +kernel
theorem dX10_right_57 : decode cX10_right 57 = .ok (.bipush 12, 2) := by decide +kernel
theorem dX10_right_59 : decode cX10_right 59 = .ok (.iconst 5, 1) := by decide +kernel
theorem dX10_right_60 : decode cX10_right 60 = .ok (.iload_n 1, 1) := by decide +kernel
theorem dX10_right_61 : decode cX10_right 61 = .ok (.imul, 1) := by decide +kernel
theorem dX10_right_62 : decode cX10_right 62 = .ok (.iadd, 1) := by decide +kernel
theorem dX10_right_63 : decode cX10_right 63 = .ok (.iconst 1, 1) := by decide +kernel
theorem dX10_right_64 : decode cX10_right 64 = .ok (.iadd, 1) := by decide +kernel
theorem dX10_right_65 : decode cX10_right 65 = .ok (.iload 6, 2) := by decide +kernel
theorem dX10_right_67 : decode cX10_right 67 = .ok (.iastore, 1) := by decide +kernel
theorem dX10_right_68 : decode cX10_right 68 = .ok (.aload_n 0, 1) := by decide +kernel
theorem dX10_right_69 : decode cX10_right 69 = .ok (.iconst 0, 1) := by decide +kernel
theorem dX10_right_70 : decode cX10_right 70 = .ok (.invokevirtual 275, 3) := by decide +kernel
theorem dX10_right_73 : decode cX10_right 73 = .ok (.iconst 0, 1) := by decide +kernel
theorem dX10_right_74 : decode cX10_right 74 = .ok (.istore 7, 2) := by decide +kernel
theorem dX10_right_76 : decode cX10_right 76 = .ok (.iconst 0, 1) := by decide +kernel
theorem dX10_right_77 : decode cX10_right 77 = .ok (.istore 8, 2) := by decide +kernel
theorem dX10_right_79 : decode cX10_right 79 = .ok (.iload 8, 2) := by decide +kernel
theorem dX10_right_81 : decode cX10_right 81 = .ok (.aload_n 0, 1) := by decide +kernel
theorem dX10_right_82 : decode cX10_right 82 = .ok (.getfield 7, 3) := by decide +kernel
theorem dX10_right_85 : decode cX10_right 85 = .ok (.iconst 4, 1) := by decide +kernel
theorem dX10_right_86 : decode cX10_right 86 = .ok (.iaload, 1) := by decide +kernel
theorem dX10_right_87 : decode cX10_right 87 = .ok (.if_icmp .ge 41, 3) := by decide +kernel
theorem dX10_right_90 : decode cX10_right 90 = .ok (.iload 7, 2) := by decide +kernel
theorem dX10_right_92 : decode cX10_right 92 = .ok (.aload_n 0, 1) := by decide +kernel
theorem dX10_right_93 : decode cX10_right 93 = .ok (.getfield 35, 3) := by decide +kernel
theorem dX10_right_96 : decode cX10_right 96 = .ok (.iload 8, 2) := by decide +kernel
theorem dX10_right_98 : decode cX10_right 98 = .ok (.iaload, 1) := by decide +kernel
theorem dX10_right_99 : decode cX10_right 99 = .ok (.iload_n 1, 1) := by decide +kernel
theorem dX10_right_100 : decode cX10_right 100 = .ok (.if_icmp .ne 18, 3) := by decide +kernel
theorem dX10_right_103 : decode cX10_right 103 = .ok (.aload_n 0, 1) := by decide +kernel
theorem dX10_right_104 : decode cX10_right 104 = .ok (.getfield 32, 3) := by decide +kernel
theorem dX10_right_107 : decode cX10_right 107 = .ok (.bipush 10, 2) := by decide +kernel
theorem dX10_right_109 : decode cX10_right 109 = .ok (.iload_n 1, 1) := by decide +kernel
theorem dX10_right_110 : decode cX10_right 110 = .ok (.imul, 1) := by decide +kernel
theorem dX10_right_111 : decode cX10_right 111 = .ok (.iload 8, 2) := by decide +kernel
theorem dX10_right_113 : decode cX10_right 113 = .ok (.iadd, 1) := by decide +kernel
theorem dX10_right_114 : decode cX10_right 114 = .ok (.iaload, 1) := by decide +kernel
theorem dX10_right_115 : decode cX10_right 115 = .ok (.goto 4, 3) := by decide +kernel
theorem dX10_right_118 : decode cX10_right 118 = .ok (.iconst 0, 1) := by decide +kernel
theorem dX10_right_119 : decode cX10_right 119 = .ok (.iadd, 1) := by decide +kernel
theorem dX10_right_120 : decode cX10_right 120 = .ok (.istore 7, 2) := by decide +kernel
theorem dX10_right_122 : decode cX10_right 122 = .ok (.iinc 8 1, 3) := by decide +kernel
theorem dX10_right_125 : decode cX10_right 125 = .ok (.goto (-46), 3) := by decide +kernel
theorem dX10_right_128 : decode cX10_right 128 = .ok (.iload 7, 2) := by decide +kernel
theorem dX10_right_130 : decode cX10_right 130 = .ok (.iload 5, 2) := by decide +kernel
theorem dX10_right_132 : decode cX10_right 132 = .ok (.if_icmp .gt 6, 3) := by decide +kernel
theorem dX10_right_135 : decode cX10_right 135 = .ok (.goto 11, 3) := by decide +kernel
theorem dX10_right_138 : decode cX10_right 138 = .ok (.iload 7, 2) := by decide +kernel
theorem dX10_right_140 : decode cX10_right 140 = .ok (.istore 5, 2) := by decide +kernel
theorem dX10_right_142 : decode cX10_right 142 = .ok (.iload 6, 2) := by decide +kernel
theorem dX10_right_144 : decode cX10_right 144 = .ok (.istore 4, 2) := by decide +kernel
theorem dX10_right_146 : decode cX10_right 146 = .ok (.iinc 6 1, 3) := by decide +kernel
theorem dX10_right_149 : decode cX10_right 149 = .ok (.goto (-103), 3) := by decide +kernel
theorem dX10_right_152 : decode cX10_right 152 = .ok (.aload_n 0, 1) := by decide +kernel
theorem dX10_right_153 : decode cX10_right 153 = .ok (.getfield 7, 3) := by decide +kernel
theorem dX10_right_156 : decode cX10_right 156 = .ok (.bipush 12, 2) := by decide +kernel
theorem dX10_right_158 : decode cX10_right 158 = .ok (.iconst 5, 1) := by decide +kernel
theorem dX10_right_159 : decode cX10_right 159 = .ok (.iload_n 1, 1) := by decide +kernel
theorem dX10_right_160 : decode cX10_right 160 = .ok (.imul, 1) := by decide +kernel
theorem dX10_right_161 : decode cX10_right 161 = .ok (.iadd, 1) := by decide +kernel
theorem dX10_right_162 : decode cX10_right 162 = .ok (.iconst 1, 1) := by decide +kernel
theorem dX10_right_163 : decode cX10_right 163 = .ok (.iadd, 1) := by decide +kernel
theorem dX10_right_164 : decode cX10_right 164 = .ok (.iload_n 3, 1) := by decide +kernel
theorem dX10_right_165 : decode cX10_right 165 = .ok (.iastore, 1) := by decide +kernel
theorem dX10_right_166 : decode cX10_right 166 = .ok (.iload_n 2, 1) := by decide +kernel
theorem dX10_right_167 : decode cX10_right 167 = .ok (.ifCond .eq 8, 3) := by decide +kernel
theorem dX10_right_170 : decode cX10_right 170 = .ok (.iload 5, 2) := by decide +kernel
theorem dX10_right_172 : decode cX10_right 172 = .ok (.goto 5, 3) := by decide +kernel
theorem dX10_right_175 : decode cX10_right 175 = .ok (.iload 4, 2) := by decide +kernel
theorem dX10_right_177 : decode cX10_right 177 = .ok (.ireturn, 1) := by decide +kernel
theorem dX10_fewest_0 : decode cX10_fewest 0 = .ok (.aload_n 0, 1) := by decide +kernel
theorem dX10_fewest_1 : decode cX10_fewest 1 = .ok (.iconst 0, 1) := by decide +kernel
theorem dX10_fewest_2 : decode cX10_fewest 2 = .ok (.putfield 63, 3) := by decide +kernel
theorem dX10_fewest_5 : decode cX10_fewest 5 = .ok (.aload_n 0, 1) := by decide +kernel
theorem dX10_fewest_6 : decode cX10_fewest 6 = .ok (.invokevirtual 318, 3) := by decide +kernel
theorem dX10_fewest_9 : decode cX10_fewest 9 = .ok (.iconst 0, 1) := by decide +kernel
theorem dX10_fewest_10 : decode cX10_fewest 10 = .ok (.istore_n 1, 1) := by decide +kernel
theorem dX10_fewest_11 : decode cX10_fewest 11 = .ok (.iconst 0, 1) := by decide +kernel
theorem dX10_fewest_12 : decode cX10_fewest 12 = .ok (.istore_n 2, 1) := by decide +kernel
theorem dX10_fewest_13 : decode cX10_fewest 13 = .ok (.iload_n 2, 1) := by decide +kernel
theorem dX10_fewest_14 : decode cX10_fewest 14 = .ok (.aload_n 0, 1) := by decide +kernel
theorem dX10_fewest_15 : decode cX10_fewest 15 = .ok (.getfield 7, 3) := by decide +kernel
theorem dX10_fewest_18 : decode cX10_fewest 18 = .ok (.iconst 4, 1) := by decide +kernel
theorem dX10_fewest_19 : decode cX10_fewest 19 = .ok (.iaload, 1) := by decide +kernel
theorem dX10_fewest_20 : decode cX10_fewest 20 = .ok (.if_icmp .ge 18, 3) := by decide +kernel
theorem dX10_fewest_23 : decode cX10_fewest 23 = .ok (.iload_n 1, 1) := by decide +kernel
theorem dX10_fewest_24 : decode cX10_fewest 24 = .ok (.aload_n 0, 1) := by decide +kernel
theorem dX10_fewest_25 : decode cX10_fewest 25 = .ok (.getfield 47, 3) := by decide +kernel
theorem dX10_fewest_28 : decode cX10_fewest 28 = .ok (.iload_n 2, 1) := by decide +kernel
theorem dX10_fewest_29 : decode cX10_fewest 29 = .ok (.iaload, 1) := by decide +kernel
theorem dX10_fewest_30 : decode cX10_fewest 30 = .ok (.ior, 1) := by decide +kernel
theorem dX10_fewest_31 : decode cX10_fewest 31 = .ok (.istore_n 1, 1) := by decide +kernel
theorem dX10_fewest_32 : decode cX10_fewest 32 = .ok (.iinc 2 1, 3) := by decide +kernel
theorem dX10_fewest_35 : decode cX10_fewest 35 = .ok (.goto (-22), 3) := by decide +kernel
theorem dX10_fewest_38 : decode cX10_fewest 38 = .ok (.iconst (-1), 1) := by decide +kernel
theorem dX10_fewest_39 : decode cX10_fewest 39 = .ok (.istore_n 2, 1) := by decide +kernel
theorem dX10_fewest_40 : decode cX10_fewest 40 = .ok (.iconst 0, 1) := by decide +kernel
theorem dX10_fewest_41 : decode cX10_fewest 41 = .ok (.istore_n 3, 1) := by decide +kernel
theorem dX10_fewest_42 : decode cX10_fewest 42 = .ok (.iload_n 3, 1) := by decide +kernel
theorem dX10_fewest_43 : decode cX10_fewest 43 = .ok (.iconst 1, 1) := by decide +kernel
theorem dX10_fewest_44 : decode cX10_fewest 44 = .ok (.aload_n 0, 1) := by decide +kernel
theorem dX10_fewest_45 : decode cX10_fewest 45 = .ok (.getfield 7, 3) := by decide +kernel
theorem dX10_fewest_48 : decode cX10_fewest 48 = .ok (.iconst 4, 1) := by decide +kernel
theorem dX10_fewest_49 : decode cX10_fewest 49 = .ok (.iaload, 1) := by decide +kernel
theorem dX10_fewest_50 : decode cX10_fewest 50 = .ok (.ishl, 1) := by decide +kernel
theorem dX10_fewest_51 : decode cX10_fewest 51 = .ok (.if_icmp .ge 84, 3) := by decide +kernel
theorem dX10_fewest_54 : decode cX10_fewest 54 = .ok (.iload_n 2, 1) := by decide +kernel
theorem dX10_fewest_55 : decode cX10_fewest 55 = .ok (.iconst (-1), 1) := by decide +kernel
theorem dX10_fewest_56 : decode cX10_fewest 56 = .ok (.if_icmp .eq 17, 3) := by decide +kernel
theorem dX10_fewest_59 : decode cX10_fewest 59 = .ok (.iload_n 3, 1) := by decide +kernel
theorem dX10_fewest_60 : decode cX10_fewest 60 = .ok (.invokestatic 321, 3) := by decide +kernel
theorem dX10_fewest_63 : decode cX10_fewest 63 = .ok (.iload_n 2, 1) := by decide +kernel
theorem dX10_fewest_64 : decode cX10_fewest 64 = .ok (.invokestatic 321, 3) := by decide +kernel
theorem dX10_fewest_67 : decode cX10_fewest 67 = .ok (.if_icmp .lt 6, 3) := by decide +kernel
theorem dX10_fewest_70 : decode cX10_fewest 70 = .ok (.goto 59, 3) := by decide +kernel
theorem dX10_fewest_73 : decode cX10_fewest 73 = .ok (.iconst 0, 1) := by decide +kernel
theorem dX10_fewest_74 : decode cX10_fewest 74 = .ok (.istore 4, 2) := by decide +kernel
theorem dX10_fewest_76 : decode cX10_fewest 76 = .ok (.iconst 0, 1) := by decide +kernel
theorem dX10_fewest_77 : decode cX10_fewest 77 = .ok (.istore 5, 2) := by decide +kernel
theorem dX10_fewest_79 : decode cX10_fewest 79 = .ok (.iload 5, 2) := by decide +kernel
theorem dX10_fewest_81 : decode cX10_fewest 81 = .ok (.aload_n 0, 1) := by decide +kernel
theorem dX10_fewest_82 : decode cX10_fewest 82 = .ok (.getfield 7, 3) := by decide +kernel
theorem dX10_fewest_85 : decode cX10_fewest 85 = .ok (.iconst 4, 1) := by decide +kernel
theorem dX10_fewest_86 : decode cX10_fewest 86 = .ok (.iaload, 1) := by decide +kernel
theorem dX10_fewest_87 : decode cX10_fewest 87 = .ok (.if_icmp .ge 34, 3) := by decide +kernel
theorem dX10_fewest_90 : decode cX10_fewest 90 = .ok (.iload 4, 2) := by decide +kernel
theorem dX10_fewest_92 : decode cX10_fewest 92 = .ok (.iload_n 3, 1) := by decide +kernel
theorem dX10_fewest_93 : decode cX10_fewest 93 = .ok (.iload 5, 2) := by decide +kernel
theorem dX10_fewest_95 : decode cX10_fewest 95 = .ok (.invokestatic 117, 3) := by decide +kernel
theorem dX10_fewest_98 : decode cX10_fewest 98 = .ok (.ifCond .eq 13, 3) := by decide +kernel
theorem dX10_fewest_101 : decode cX10_fewest 101 = .ok (.aload_n 0, 1) := by decide +kernel
theorem dX10_fewest_102 : decode cX10_fewest 102 = .ok (.getfield 47, 3) := by decide +kernel
theorem dX10_fewest_105 : decode cX10_fewest 105 = .ok (.iload 5, 2) := by decide +kernel
theorem dX10_fewest_107 : decode cX10_fewest 107 = .ok (.iaload, 1) := by decide +kernel
theorem dX10_fewest_108 : decode cX10_fewest 108 = .ok (.goto 4, 3) := by decide +kernel
theorem dX10_fewest_111 : decode cX10_fewest 111 = .ok (.iconst 0, 1) := by decide +kernel
theorem dX10_fewest_112 : decode cX10_fewest 112 = .ok (.ior, 1) := by decide +kernel
theorem dX10_fewest_113 : decode cX10_fewest 113 = .ok (.istore 4, 2) := by decide +kernel
theorem dX10_fewest_115 : decode cX10_fewest 115 = .ok (.iinc 5 1, 3) := by decide +kernel
theorem dX10_fewest_118 : decode cX10_fewest 118 = .ok (.goto (-39), 3) := by decide +kernel
theorem dX10_fewest_121 : decode cX10_fewest 121 = .ok (.iload 4, 2) := by decide +kernel
theorem dX10_fewest_123 : decode cX10_fewest 123 = .ok (.iload_n 1, 1) := by decide +kernel
theorem dX10_fewest_124 : decode cX10_fewest 124 = .ok (.if_icmp .ne 5, 3) := by decide +kernel
theorem dX10_fewest_127 : decode cX10_fewest 127 = .ok (.iload_n 3, 1) := by decide +kernel
theorem dX10_fewest_128 : decode cX10_fewest 128 = .ok (.istore_n 2, 1) := by decide +kernel
theorem dX10_fewest_129 : decode cX10_fewest 129 = .ok (.iinc 3 1, 3) := by decide +kernel
theorem dX10_fewest_132 : decode cX10_fewest 132 = .ok (.goto (-90), 3) := by decide +kernel
theorem dX10_fewest_135 : decode cX10_fewest 135 = .ok (.iload_n 2, 1) := by decide +kernel
theorem dX10_fewest_136 : decode cX10_fewest 136 = .ok (.ireturn, 1) := by decide +kernel
theorem dX10_alone_0 : decode cX10_alone 0 = .ok (.aload_n 0, 1) := by decide +kernel
theorem dX10_alone_1 : decode cX10_alone 1 = .ok (.iconst 0, 1) := by decide +kernel
theorem dX10_alone_2 : decode cX10_alone 2 = .ok (.putfield 63, 3) := by decide +kernel
theorem dX10_alone_5 : decode cX10_alone 5 = .ok (.aload_n 0, 1) := by decide +kernel
theorem dX10_alone_6 : decode cX10_alone 6 = .ok (.invokevirtual 272, 3) := by decide +kernel
theorem dX10_alone_9 : decode cX10_alone 9 = .ok (.iconst 0, 1) := by decide +kernel
theorem dX10_alone_10 : decode cX10_alone 10 = .ok (.istore_n 1, 1) := by decide +kernel
theorem dX10_alone_11 : decode cX10_alone 11 = .ok (.iconst 0, 1) := by decide +kernel
theorem dX10_alone_12 : decode cX10_alone 12 = .ok (.istore_n 2, 1) := by decide +kernel
theorem dX10_alone_13 : decode cX10_alone 13 = .ok (.iload_n 2, 1) := by decide +kernel
theorem dX10_alone_14 : decode cX10_alone 14 = .ok (.aload_n 0, 1) := by decide +kernel
theorem dX10_alone_15 : decode cX10_alone 15 = .ok (.getfield 7, 3) := by decide +kernel
theorem dX10_alone_18 : decode cX10_alone 18 = .ok (.iconst 3, 1) := by decide +kernel
theorem dX10_alone_19 : decode cX10_alone 19 = .ok (.iaload, 1) := by decide +kernel
theorem dX10_alone_20 : decode cX10_alone 20 = .ok (.if_icmp .ge 27, 3) := by decide +kernel
theorem dX10_alone_23 : decode cX10_alone 23 = .ok (.iload_n 1, 1) := by decide +kernel
theorem dX10_alone_24 : decode cX10_alone 24 = .ok (.aload_n 0, 1) := by decide +kernel
theorem dX10_alone_25 : decode cX10_alone 25 = .ok (.iload_n 2, 1) := by decide +kernel
theorem dX10_alone_26 : decode cX10_alone 26 = .ok (.invokevirtual 291, 3) := by decide +kernel
theorem dX10_alone_29 : decode cX10_alone 29 = .ok (.ifCond .ne 9, 3) := by decide +kernel
theorem dX10_alone_32 : decode cX10_alone 32 = .ok (.iconst 1, 1) := by decide +kernel
theorem dX10_alone_33 : decode cX10_alone 33 = .ok (.iload_n 2, 1) := by decide +kernel
theorem dX10_alone_34 : decode cX10_alone 34 = .ok (.ishl, 1) := by decide +kernel
theorem dX10_alone_35 : decode cX10_alone 35 = .ok (.goto 4, 3) := by decide +kernel
theorem dX10_alone_38 : decode cX10_alone 38 = .ok (.iconst 0, 1) := by decide +kernel
theorem dX10_alone_39 : decode cX10_alone 39 = .ok (.ior, 1) := by decide +kernel
theorem dX10_alone_40 : decode cX10_alone 40 = .ok (.istore_n 1, 1) := by decide +kernel
theorem dX10_alone_41 : decode cX10_alone 41 = .ok (.iinc 2 1, 3) := by decide +kernel
theorem dX10_alone_44 : decode cX10_alone 44 = .ok (.goto (-31), 3) := by decide +kernel
theorem dX10_alone_47 : decode cX10_alone 47 = .ok (.iload_n 1, 1) := by decide +kernel
theorem dX10_alone_48 : decode cX10_alone 48 = .ok (.ireturn, 1) := by decide +kernel
theorem dX10_rivals_0 : decode cX10_rivals 0 = .ok (.aload_n 0, 1) := by decide +kernel
theorem dX10_rivals_1 : decode cX10_rivals 1 = .ok (.aload_n 0, 1) := by decide +kernel
theorem dX10_rivals_2 : decode cX10_rivals 2 = .ok (.iload_n 1, 1) := by decide +kernel
theorem dX10_rivals_3 : decode cX10_rivals 3 = .ok (.invokevirtual 285, 3) := by decide +kernel
theorem dX10_rivals_6 : decode cX10_rivals 6 = .ok (.ifCond .eq 11, 3) := by decide +kernel
theorem dX10_rivals_9 : decode cX10_rivals 9 = .ok (.aload_n 0, 1) := by decide +kernel
theorem dX10_rivals_10 : decode cX10_rivals 10 = .ok (.iload_n 2, 1) := by decide +kernel
theorem dX10_rivals_11 : decode cX10_rivals 11 = .ok (.invokevirtual 285, 3) := by decide +kernel
theorem dX10_rivals_14 : decode cX10_rivals 14 = .ok (.ifCond .ne 7, 3) := by decide +kernel
theorem dX10_rivals_17 : decode cX10_rivals 17 = .ok (.iconst 1, 1) := by decide +kernel
theorem dX10_rivals_18 : decode cX10_rivals 18 = .ok (.goto 13, 3) := by decide +kernel
theorem dX10_rivals_21 : decode cX10_rivals 21 = .ok (.iload_n 1, 1) := by decide +kernel
theorem dX10_rivals_22 : decode cX10_rivals 22 = .ok (.iload_n 2, 1) := by decide +kernel
theorem dX10_rivals_23 : decode cX10_rivals 23 = .ok (.if_icmp .ne 7, 3) := by decide +kernel
theorem dX10_rivals_26 : decode cX10_rivals 26 = .ok (.iconst 2, 1) := by decide +kernel
theorem dX10_rivals_27 : decode cX10_rivals 27 = .ok (.goto 4, 3) := by decide +kernel
theorem dX10_rivals_30 : decode cX10_rivals 30 = .ok (.iconst 0, 1) := by decide +kernel
theorem dX10_rivals_31 : decode cX10_rivals 31 = .ok (.putfield 63, 3) := by decide +kernel
theorem dX10_rivals_34 : decode cX10_rivals 34 = .ok (.aload_n 0, 1) := by decide +kernel
theorem dX10_rivals_35 : decode cX10_rivals 35 = .ok (.getfield 63, 3) := by decide +kernel
theorem dX10_rivals_38 : decode cX10_rivals 38 = .ok (.ifCond .le 5, 3) := by decide +kernel
theorem dX10_rivals_41 : decode cX10_rivals 41 = .ok (.iconst 0, 1) := by decide +kernel
theorem dX10_rivals_42 : decode cX10_rivals 42 = .ok (.ireturn, 1) := by decide +kernel
theorem dX10_rivals_43 : decode cX10_rivals 43 = .ok (.aload_n 0, 1) := by decide +kernel
theorem dX10_rivals_44 : decode cX10_rivals 44 = .ok (.invokevirtual 272, 3) := by decide +kernel
theorem dX10_rivals_47 : decode cX10_rivals 47 = .ok (.aload_n 0, 1) := by decide +kernel
theorem dX10_rivals_48 : decode cX10_rivals 48 = .ok (.iload_n 1, 1) := by decide +kernel
theorem dX10_rivals_49 : decode cX10_rivals 49 = .ok (.invokevirtual 291, 3) := by decide +kernel
theorem dX10_rivals_52 : decode cX10_rivals 52 = .ok (.aload_n 0, 1) := by decide +kernel
theorem dX10_rivals_53 : decode cX10_rivals 53 = .ok (.iload_n 2, 1) := by decide +kernel
theorem dX10_rivals_54 : decode cX10_rivals 54 = .ok (.invokevirtual 291, 3) := by decide +kernel
theorem dX10_rivals_57 : decode cX10_rivals 57 = .ok (.iand, 1) := by decide +kernel
theorem dX10_rivals_58 : decode cX10_rivals 58 = .ok (.ireturn, 1) := by decide +kernel
theorem dX10_group_0 : decode cX10_group 0 = .ok (.aload_n 0, 1) := by decide +kernel
theorem dX10_group_1 : decode cX10_group 1 = .ok (.iload_n 1, 1) := by decide +kernel
theorem dX10_group_2 : decode cX10_group 2 = .ok (.iconst 0, 1) := by decide +kernel
theorem dX10_group_3 : decode cX10_group 3 = .ok (.bipush 9, 2) := by decide +kernel
theorem dX10_group_5 : decode cX10_group 5 = .ok (.invokestatic 66, 3) := by decide +kernel
theorem dX10_group_8 : decode cX10_group 8 = .ok (.ifCond .ne 7, 3) := by decide +kernel
theorem dX10_group_11 : decode cX10_group 11 = .ok (.iconst 1, 1) := by decide +kernel
theorem dX10_group_12 : decode cX10_group 12 = .ok (.goto 4, 3) := by decide +kernel
theorem dX10_group_15 : decode cX10_group 15 = .ok (.iconst 0, 1) := by decide +kernel
theorem dX10_group_16 : decode cX10_group 16 = .ok (.putfield 63, 3) := by decide +kernel
theorem dX10_group_19 : decode cX10_group 19 = .ok (.aload_n 0, 1) := by decide +kernel
theorem dX10_group_20 : decode cX10_group 20 = .ok (.getfield 63, 3) := by decide +kernel
theorem dX10_group_23 : decode cX10_group 23 = .ok (.ifCond .le 5, 3) := by decide +kernel
theorem dX10_group_26 : decode cX10_group 26 = .ok (.iconst 0, 1) := by decide +kernel
theorem dX10_group_27 : decode cX10_group 27 = .ok (.ireturn, 1) := by decide +kernel
theorem dX10_group_28 : decode cX10_group 28 = .ok (.aload_n 0, 1) := by decide +kernel
theorem dX10_group_29 : decode cX10_group 29 = .ok (.invokevirtual 288, 3) := by decide +kernel
theorem dX10_group_32 : decode cX10_group 32 = .ok (.iconst 0, 1) := by decide +kernel
theorem dX10_group_33 : decode cX10_group 33 = .ok (.istore_n 3, 1) := by decide +kernel
theorem dX10_group_34 : decode cX10_group 34 = .ok (.iconst 0, 1) := by decide +kernel
theorem dX10_group_35 : decode cX10_group 35 = .ok (.istore 4, 2) := by decide +kernel
theorem dX10_group_37 : decode cX10_group 37 = .ok (.iload 4, 2) := by decide +kernel
theorem dX10_group_39 : decode cX10_group 39 = .ok (.aload_n 0, 1) := by decide +kernel
theorem dX10_group_40 : decode cX10_group 40 = .ok (.getfield 7, 3) := by decide +kernel
theorem dX10_group_43 : decode cX10_group 43 = .ok (.iconst 4, 1) := by decide +kernel
theorem dX10_group_44 : decode cX10_group 44 = .ok (.iaload, 1) := by decide +kernel
theorem dX10_group_45 : decode cX10_group 45 = .ok (.if_icmp .ge 79, 3) := by decide +kernel
theorem dX10_group_48 : decode cX10_group 48 = .ok (.aload_n 0, 1) := by decide +kernel
theorem dX10_group_49 : decode cX10_group 49 = .ok (.iload 4, 2) := by decide +kernel
theorem dX10_group_51 : decode cX10_group 51 = .ok (.iconst 2, 1) := by decide +kernel
theorem dX10_group_52 : decode cX10_group 52 = .ok (.invokevirtual 246, 3) := by decide +kernel
theorem dX10_group_55 : decode cX10_group 55 = .ok (.iload_n 1, 1) := by decide +kernel
theorem dX10_group_56 : decode cX10_group 56 = .ok (.if_icmp .eq 6, 3) := by decide +kernel
theorem dX10_group_59 : decode cX10_group 59 = .ok (.goto 59, 3) := by decide +kernel
theorem dX10_group_62 : decode cX10_group 62 = .ok (.iload_n 2, 1) := by decide +kernel
theorem dX10_group_63 : decode cX10_group 63 = .ok (.ifCond .eq 28, 3) := by decide +kernel
theorem dX10_group_66 : decode cX10_group 66 = .ok (.iload_n 3, 1) := by decide +kernel
theorem dX10_group_67 : decode cX10_group 67 = .ok (.aload_n 0, 1) := by decide +kernel
theorem dX10_group_68 : decode cX10_group 68 = .ok (.getfield 35, 3) := by decide +kernel
theorem dX10_group_71 : decode cX10_group 71 = .ok (.iload 4, 2) := by decide +kernel
theorem dX10_group_73 : decode cX10_group 73 = .ok (.iaload, 1) := by decide +kernel
theorem dX10_group_74 : decode cX10_group 74 = .ok (.iconst (-1), 1) := by decide +kernel
theorem dX10_group_75 : decode cX10_group 75 = .ok (.if_icmp .ne 10, 3) := by decide +kernel
theorem dX10_group_78 : decode cX10_group 78 = .ok (.iconst 1, 1) := by decide +kernel
theorem dX10_group_79 : decode cX10_group 79 = .ok (.iload 4, 2) := by decide +kernel
theorem dX10_group_81 : decode cX10_group 81 = .ok (.ishl, 1) := by decide +kernel
theorem dX10_group_82 : decode cX10_group 82 = .ok (.goto 4, 3) := by decide +kernel
theorem dX10_group_85 : decode cX10_group 85 = .ok (.iconst 0, 1) := by decide +kernel
theorem dX10_group_86 : decode cX10_group 86 = .ok (.ior, 1) := by decide +kernel
theorem dX10_group_87 : decode cX10_group 87 = .ok (.istore_n 3, 1) := by decide +kernel
theorem dX10_group_88 : decode cX10_group 88 = .ok (.goto 30, 3) := by decide +kernel
theorem dX10_group_91 : decode cX10_group 91 = .ok (.iload_n 3, 1) := by decide +kernel
theorem dX10_group_92 : decode cX10_group 92 = .ok (.aload_n 0, 1) := by decide +kernel
theorem dX10_group_93 : decode cX10_group 93 = .ok (.getfield 35, 3) := by decide +kernel
theorem dX10_group_96 : decode cX10_group 96 = .ok (.iload 4, 2) := by decide +kernel
theorem dX10_group_98 : decode cX10_group 98 = .ok (.iaload, 1) := by decide +kernel
theorem dX10_group_99 : decode cX10_group 99 = .ok (.iconst (-1), 1) := by decide +kernel
theorem dX10_group_100 : decode cX10_group 100 = .ok (.if_icmp .ne 7, 3) := by decide +kernel
theorem dX10_group_103 : decode cX10_group 103 = .ok (.iconst 0, 1) := by decide +kernel
theorem dX10_group_104 : decode cX10_group 104 = .ok (.goto 12, 3) := by decide +kernel
theorem dX10_group_107 : decode cX10_group 107 = .ok (.iconst 1, 1) := by decide +kernel
theorem dX10_group_108 : decode cX10_group 108 = .ok (.aload_n 0, 1) := by decide +kernel
theorem dX10_group_109 : decode cX10_group 109 = .ok (.getfield 35, 3) := by decide +kernel
theorem dX10_group_112 : decode cX10_group 112 = .ok (.iload 4, 2) := by decide +kernel
theorem dX10_group_114 : decode cX10_group 114 = .ok (.iaload, 1) := by decide +kernel
theorem dX10_group_115 : decode cX10_group 115 = .ok (.ishl, 1) := by decide +kernel
theorem dX10_group_116 : decode cX10_group 116 = .ok (.ior, 1) := by decide +kernel
theorem dX10_group_117 : decode cX10_group 117 = .ok (.istore_n 3, 1) := by decide +kernel
theorem dX10_group_118 : decode cX10_group 118 = .ok (.iinc 4 1, 3) := by decide +kernel
theorem dX10_group_121 : decode cX10_group 121 = .ok (.goto (-84), 3) := by decide +kernel
theorem dX10_group_124 : decode cX10_group 124 = .ok (.iload_n 3, 1) := by decide +kernel
theorem dX10_group_125 : decode cX10_group 125 = .ok (.ireturn, 1) := by decide +kernel
theorem dX10_wanted_0 : decode cX10_wanted 0 = .ok (.aload_n 0, 1) := by decide +kernel
theorem dX10_wanted_1 : decode cX10_wanted 1 = .ok (.getfield 74, 3) := by decide +kernel
theorem dX10_wanted_4 : decode cX10_wanted 4 = .ok (.istore_n 1, 1) := by decide +kernel
theorem dX10_wanted_5 : decode cX10_wanted 5 = .ok (.aload_n 0, 1) := by decide +kernel
theorem dX10_wanted_6 : decode cX10_wanted 6 = .ok (.iconst 0, 1) := by decide +kernel
theorem dX10_wanted_7 : decode cX10_wanted 7 = .ok (.putfield 74, 3) := by decide +kernel
theorem dX10_wanted_10 : decode cX10_wanted 10 = .ok (.iload_n 1, 1) := by decide +kernel
theorem dX10_wanted_11 : decode cX10_wanted 11 = .ok (.iconst 2, 1) := by decide +kernel
theorem dX10_wanted_12 : decode cX10_wanted 12 = .ok (.irem, 1) := by decide +kernel
theorem dX10_wanted_13 : decode cX10_wanted 13 = .ok (.ifCond .ne 13, 3) := by decide +kernel
theorem dX10_wanted_16 : decode cX10_wanted 16 = .ok (.iload_n 1, 1) := by decide +kernel
theorem dX10_wanted_17 : decode cX10_wanted 17 = .ok (.bipush 40, 2) := by decide +kernel
theorem dX10_wanted_19 : decode cX10_wanted 19 = .ok (.if_icmp .gt 7, 3) := by decide +kernel
theorem dX10_wanted_22 : decode cX10_wanted 22 = .ok (.iconst 1, 1) := by decide +kernel
theorem dX10_wanted_23 : decode cX10_wanted 23 = .ok (.goto 4, 3) := by decide +kernel
theorem dX10_wanted_26 : decode cX10_wanted 26 = .ok (.iconst 0, 1) := by decide +kernel
theorem dX10_wanted_27 : decode cX10_wanted 27 = .ok (.istore_n 2, 1) := by decide +kernel
theorem dX10_wanted_28 : decode cX10_wanted 28 = .ok (.iconst 0, 1) := by decide +kernel
theorem dX10_wanted_29 : decode cX10_wanted 29 = .ok (.istore_n 3, 1) := by decide +kernel
theorem dX10_wanted_30 : decode cX10_wanted 30 = .ok (.iload_n 3, 1) := by decide +kernel
theorem dX10_wanted_31 : decode cX10_wanted 31 = .ok (.iload_n 1, 1) := by decide +kernel
theorem dX10_wanted_32 : decode cX10_wanted 32 = .ok (.if_icmp .ge 44, 3) := by decide +kernel
theorem dX10_wanted_35 : decode cX10_wanted 35 = .ok (.iload_n 2, 1) := by decide +kernel
theorem dX10_wanted_36 : decode cX10_wanted 36 = .ok (.ifCond .eq 40, 3) := by decide +kernel
theorem dX10_wanted_39 : decode cX10_wanted 39 = .ok (.aload_n 0, 1) := by decide +kernel
theorem dX10_wanted_40 : decode cX10_wanted 40 = .ok (.getfield 22, 3) := by decide +kernel
theorem dX10_wanted_43 : decode cX10_wanted 43 = .ok (.iload_n 3, 1) := by decide +kernel
theorem dX10_wanted_44 : decode cX10_wanted 44 = .ok (.iaload, 1) := by decide +kernel
theorem dX10_wanted_45 : decode cX10_wanted 45 = .ok (.iload_n 3, 1) := by decide +kernel
theorem dX10_wanted_46 : decode cX10_wanted 46 = .ok (.iconst 2, 1) := by decide +kernel
theorem dX10_wanted_47 : decode cX10_wanted 47 = .ok (.irem, 1) := by decide +kernel
theorem dX10_wanted_48 : decode cX10_wanted 48 = .ok (.ifCond .ne 12, 3) := by decide +kernel
theorem dX10_wanted_51 : decode cX10_wanted 51 = .ok (.aload_n 0, 1) := by decide +kernel
theorem dX10_wanted_52 : decode cX10_wanted 52 = .ok (.getfield 7, 3) := by decide +kernel
theorem dX10_wanted_55 : decode cX10_wanted 55 = .ok (.iconst 4, 1) := by decide +kernel
theorem dX10_wanted_56 : decode cX10_wanted 56 = .ok (.iaload, 1) := by decide +kernel
theorem dX10_wanted_57 : decode cX10_wanted 57 = .ok (.goto 4, 3) := by decide +kernel
theorem dX10_wanted_60 : decode cX10_wanted 60 = .ok (.iconst 2, 1) := by decide +kernel
theorem dX10_wanted_61 : decode cX10_wanted 61 = .ok (.if_icmp .ge 7, 3) := by decide +kernel
theorem dX10_wanted_64 : decode cX10_wanted 64 = .ok (.iconst 1, 1) := by decide +kernel
theorem dX10_wanted_65 : decode cX10_wanted 65 = .ok (.goto 4, 3) := by decide +kernel
theorem dX10_wanted_68 : decode cX10_wanted 68 = .ok (.iconst 0, 1) := by decide +kernel
theorem dX10_wanted_69 : decode cX10_wanted 69 = .ok (.istore_n 2, 1) := by decide +kernel
theorem dX10_wanted_70 : decode cX10_wanted 70 = .ok (.iinc 3 1, 3) := by decide +kernel
theorem dX10_wanted_73 : decode cX10_wanted 73 = .ok (.goto (-43), 3) := by decide +kernel
theorem dX10_wanted_76 : decode cX10_wanted 76 = .ok (.iload_n 2, 1) := by decide +kernel
theorem dX10_wanted_77 : decode cX10_wanted 77 = .ok (.ifCond .ne 5, 3) := by decide +kernel
theorem dX10_wanted_80 : decode cX10_wanted 80 = .ok (.iconst (-1), 1) := by decide +kernel
theorem dX10_wanted_81 : decode cX10_wanted 81 = .ok (.ireturn, 1) := by decide +kernel
theorem dX10_wanted_82 : decode cX10_wanted 82 = .ok (.iconst 0, 1) := by decide +kernel
theorem dX10_wanted_83 : decode cX10_wanted 83 = .ok (.istore_n 3, 1) := by decide +kernel
theorem dX10_wanted_84 : decode cX10_wanted 84 = .ok (.iconst 0, 1) := by decide +kernel
theorem dX10_wanted_85 : decode cX10_wanted 85 = .ok (.istore 4, 2) := by decide +kernel
theorem dX10_wanted_87 : decode cX10_wanted 87 = .ok (.iload 4, 2) := by decide +kernel
theorem dX10_wanted_89 : decode cX10_wanted 89 = .ok (.bipush 64, 2) := by decide +kernel
theorem dX10_wanted_91 : decode cX10_wanted 91 = .ok (.if_icmp .ge 118, 3) := by decide +kernel
theorem dX10_wanted_94 : decode cX10_wanted 94 = .ok (.aload_n 0, 1) := by decide +kernel
theorem dX10_wanted_95 : decode cX10_wanted 95 = .ok (.getfield 59, 3) := by decide +kernel
theorem dX10_wanted_98 : decode cX10_wanted 98 = .ok (.iload 4, 2) := by decide +kernel
theorem dX10_wanted_100 : decode cX10_wanted 100 = .ok (.iconst 1, 1) := by decide +kernel
theorem dX10_wanted_101 : decode cX10_wanted 101 = .ok (.bastore, 1) := by decide +kernel
theorem dX10_wanted_102 : decode cX10_wanted 102 = .ok (.iconst 0, 1) := by decide +kernel
theorem dX10_wanted_103 : decode cX10_wanted 103 = .ok (.istore 5, 2) := by decide +kernel
theorem dX10_wanted_105 : decode cX10_wanted 105 = .ok (.iload 5, 2) := by decide +kernel
theorem dX10_wanted_107 : decode cX10_wanted 107 = .ok (.iload_n 1, 1) := by decide +kernel
theorem dX10_wanted_108 : decode cX10_wanted 108 = .ok (.if_icmp .ge 77, 3) := by decide +kernel
theorem dX10_wanted_111 : decode cX10_wanted 111 = .ok (.aload_n 0, 1) := by decide +kernel
theorem dX10_wanted_112 : decode cX10_wanted 112 = .ok (.getfield 59, 3) := by decide +kernel
theorem dX10_wanted_115 : decode cX10_wanted 115 = .ok (.iload 4, 2) := by decide +kernel
theorem dX10_wanted_117 : decode cX10_wanted 117 = .ok (.baload, 1) := by decide +kernel
theorem dX10_wanted_118 : decode cX10_wanted 118 = .ok (.ifCond .eq 67, 3) := by decide +kernel
theorem dX10_wanted_121 : decode cX10_wanted 121 = .ok (.aload_n 0, 1) := by decide +kernel
theorem dX10_wanted_122 : decode cX10_wanted 122 = .ok (.getfield 59, 3) := by decide +kernel
theorem dX10_wanted_125 : decode cX10_wanted 125 = .ok (.iload 4, 2) := by decide +kernel
theorem dX10_wanted_127 : decode cX10_wanted 127 = .ok (.iload 4, 2) := by decide +kernel
theorem dX10_wanted_129 : decode cX10_wanted 129 = .ok (.aload_n 0, 1) := by decide +kernel
theorem dX10_wanted_130 : decode cX10_wanted 130 = .ok (.aload_n 0, 1) := by decide +kernel
theorem dX10_wanted_131 : decode cX10_wanted 131 = .ok (.getfield 22, 3) := by decide +kernel
theorem dX10_wanted_134 : decode cX10_wanted 134 = .ok (.iload 5, 2) := by decide +kernel
theorem dX10_wanted_136 : decode cX10_wanted 136 = .ok (.iaload, 1) := by decide +kernel
theorem dX10_wanted_137 : decode cX10_wanted 137 = .ok (.iconst 4, 1) := by decide +kernel
theorem dX10_wanted_138 : decode cX10_wanted 138 = .ok (.invokevirtual 246, 3) := by decide +kernel
theorem dX10_wanted_141 : decode cX10_wanted 141 = .ok (.iconst (-1), 1) := by decide +kernel
theorem dX10_wanted_142 : decode cX10_wanted 142 = .ok (.ixor, 1) := by decide +kernel
theorem dX10_wanted_143 : decode cX10_wanted 143 = .ok (.iand, 1) := by decide +kernel
theorem dX10_wanted_144 : decode cX10_wanted 144 = .ok (.ifCond .ne 7, 3) := by decide +kernel
theorem dX10_wanted_147 : decode cX10_wanted 147 = .ok (.iconst 1, 1) := by decide +kernel
theorem dX10_wanted_148 : decode cX10_wanted 148 = .ok (.goto 4, 3) := by decide +kernel
theorem dX10_wanted_151 : decode cX10_wanted 151 = .ok (.iconst 0, 1) := by decide +kernel
theorem dX10_wanted_152 : decode cX10_wanted 152 = .ok (.aload_n 0, 1) := by decide +kernel
theorem dX10_wanted_153 : decode cX10_wanted 153 = .ok (.getfield 22, 3) := by decide +kernel
theorem dX10_wanted_156 : decode cX10_wanted 156 = .ok (.iload 5, 2) := by decide +kernel
theorem dX10_wanted_158 : decode cX10_wanted 158 = .ok (.iconst 1, 1) := by decide +kernel
theorem dX10_wanted_159 : decode cX10_wanted 159 = .ok (.iadd, 1) := by decide +kernel
theorem dX10_wanted_160 : decode cX10_wanted 160 = .ok (.iaload, 1) := by decide +kernel
theorem dX10_wanted_161 : decode cX10_wanted 161 = .ok (.iconst 1, 1) := by decide +kernel
theorem dX10_wanted_162 : decode cX10_wanted 162 = .ok (.if_icmp .ne 7, 3) := by decide +kernel
theorem dX10_wanted_165 : decode cX10_wanted 165 = .ok (.iconst 1, 1) := by decide +kernel
theorem dX10_wanted_166 : decode cX10_wanted 166 = .ok (.goto 4, 3) := by decide +kernel
theorem dX10_wanted_169 : decode cX10_wanted 169 = .ok (.iconst 0, 1) := by decide +kernel
theorem dX10_wanted_170 : decode cX10_wanted 170 = .ok (.if_icmp .ne 7, 3) := by decide +kernel
theorem dX10_wanted_173 : decode cX10_wanted 173 = .ok (.iconst 1, 1) := by decide +kernel
theorem dX10_wanted_174 : decode cX10_wanted 174 = .ok (.goto 4, 3) := by decide +kernel
theorem dX10_wanted_177 : decode cX10_wanted 177 = .ok (.iconst 0, 1) := by decide +kernel
theorem dX10_wanted_178 : decode cX10_wanted 178 = .ok (.bastore, 1) := by decide +kernel
theorem dX10_wanted_179 : decode cX10_wanted 179 = .ok (.iinc 5 2, 3) := by decide +kernel
theorem dX10_wanted_182 : decode cX10_wanted 182 = .ok (.goto (-77), 3) := by decide +kernel
theorem dX10_wanted_185 : decode cX10_wanted 185 = .ok (.iload_n 3, 1) := by decide +kernel
theorem dX10_wanted_186 : decode cX10_wanted 186 = .ok (.aload_n 0, 1) := by decide +kernel
theorem dX10_wanted_187 : decode cX10_wanted 187 = .ok (.getfield 59, 3) := by decide +kernel
theorem dX10_wanted_190 : decode cX10_wanted 190 = .ok (.iload 4, 2) := by decide +kernel
theorem dX10_wanted_192 : decode cX10_wanted 192 = .ok (.baload, 1) := by decide +kernel
theorem dX10_wanted_193 : decode cX10_wanted 193 = .ok (.ifCond .eq 7, 3) := by decide +kernel
theorem dX10_wanted_196 : decode cX10_wanted 196 = .ok (.iconst 1, 1) := by decide +kernel
theorem dX10_wanted_197 : decode cX10_wanted 197 = .ok (.goto 4, 3) := by decide +kernel
theorem dX10_wanted_200 : decode cX10_wanted 200 = .ok (.iconst 0, 1) := by decide +kernel
theorem dX10_wanted_201 : decode cX10_wanted 201 = .ok (.iadd, 1) := by decide +kernel
theorem dX10_wanted_202 : decode cX10_wanted 202 = .ok (.istore_n 3, 1) := by decide +kernel
theorem dX10_wanted_203 : decode cX10_wanted 203 = .ok (.iinc 4 1, 3) := by decide +kernel
theorem dX10_wanted_206 : decode cX10_wanted 206 = .ok (.goto (-119), 3) := by decide +kernel
theorem dX10_wanted_209 : decode cX10_wanted 209 = .ok (.iload_n 3, 1) := by decide +kernel
theorem dX10_wanted_210 : decode cX10_wanted 210 = .ok (.ireturn, 1) := by decide +kernel
theorem dX10_wants_0 : decode cX10_wants 0 = .ok (.aload_n 0, 1) := by decide +kernel
theorem dX10_wants_1 : decode cX10_wants 1 = .ok (.invokevirtual 341, 3) := by decide +kernel
theorem dX10_wants_4 : decode cX10_wants 4 = .ok (.istore_n 2, 1) := by decide +kernel
theorem dX10_wants_5 : decode cX10_wants 5 = .ok (.aload_n 0, 1) := by decide +kernel
theorem dX10_wants_6 : decode cX10_wants 6 = .ok (.iload_n 2, 1) := by decide +kernel
theorem dX10_wants_7 : decode cX10_wants 7 = .ok (.iconst (-1), 1) := by decide +kernel
theorem dX10_wants_8 : decode cX10_wants 8 = .ok (.if_icmp .ne 7, 3) := by decide +kernel
theorem dX10_wants_11 : decode cX10_wants 11 = .ok (.iconst 1, 1) := by decide +kernel
theorem dX10_wants_12 : decode cX10_wants 12 = .ok (.goto 4, 3) := by decide +kernel
theorem dX10_wants_15 : decode cX10_wants 15 = .ok (.iconst 0, 1) := by decide +kernel
theorem dX10_wants_16 : decode cX10_wants 16 = .ok (.putfield 63, 3) := by decide +kernel
theorem dX10_wants_19 : decode cX10_wants 19 = .ok (.aload_n 0, 1) := by decide +kernel
theorem dX10_wants_20 : decode cX10_wants 20 = .ok (.getfield 63, 3) := by decide +kernel
theorem dX10_wants_23 : decode cX10_wants 23 = .ok (.ifCond .le 5, 3) := by decide +kernel
theorem dX10_wants_26 : decode cX10_wants 26 = .ok (.iconst 0, 1) := by decide +kernel
theorem dX10_wants_27 : decode cX10_wants 27 = .ok (.ireturn, 1) := by decide +kernel
theorem dX10_wants_28 : decode cX10_wants 28 = .ok (.iload_n 1, 1) := by decide +kernel
theorem dX10_wants_29 : decode cX10_wants 29 = .ok (.ifCond .ne 5, 3) := by decide +kernel
theorem dX10_wants_32 : decode cX10_wants 32 = .ok (.iload_n 2, 1) := by decide +kernel
theorem dX10_wants_33 : decode cX10_wants 33 = .ok (.ireturn, 1) := by decide +kernel
theorem dX10_wants_34 : decode cX10_wants 34 = .ok (.iconst (-1), 1) := by decide +kernel
theorem dX10_wants_35 : decode cX10_wants 35 = .ok (.istore_n 3, 1) := by decide +kernel
theorem dX10_wants_36 : decode cX10_wants 36 = .ok (.iconst 0, 1) := by decide +kernel
theorem dX10_wants_37 : decode cX10_wants 37 = .ok (.istore 4, 2) := by decide +kernel
theorem dX10_wants_39 : decode cX10_wants 39 = .ok (.iload 4, 2) := by decide +kernel
theorem dX10_wants_41 : decode cX10_wants 41 = .ok (.bipush 64, 2) := by decide +kernel
theorem dX10_wants_43 : decode cX10_wants 43 = .ok (.if_icmp .ge 39, 3) := by decide +kernel
theorem dX10_wants_46 : decode cX10_wants 46 = .ok (.aload_n 0, 1) := by decide +kernel
theorem dX10_wants_47 : decode cX10_wants 47 = .ok (.getfield 59, 3) := by decide +kernel
theorem dX10_wants_50 : decode cX10_wants 50 = .ok (.iload 4, 2) := by decide +kernel
theorem dX10_wants_52 : decode cX10_wants 52 = .ok (.baload, 1) := by decide +kernel
theorem dX10_wants_53 : decode cX10_wants 53 = .ok (.ifCond .eq 23, 3) := by decide +kernel
theorem dX10_wants_56 : decode cX10_wants 56 = .ok (.iload_n 3, 1) := by decide +kernel
theorem dX10_wants_57 : decode cX10_wants 57 = .ok (.iconst (-1), 1) := by decide +kernel
theorem dX10_wants_58 : decode cX10_wants 58 = .ok (.if_icmp .eq 15, 3) := by decide +kernel
theorem dX10_wants_61 : decode cX10_wants 61 = .ok (.iload 4, 2) := by decide +kernel
theorem dX10_wants_63 : decode cX10_wants 63 = .ok (.invokestatic 321, 3) := by decide +kernel
theorem dX10_wants_66 : decode cX10_wants 66 = .ok (.iload_n 3, 1) := by decide +kernel
theorem dX10_wants_67 : decode cX10_wants 67 = .ok (.invokestatic 321, 3) := by decide +kernel
theorem dX10_wants_70 : decode cX10_wants 70 = .ok (.if_icmp .ge 6, 3) := by decide +kernel
theorem dX10_wants_73 : decode cX10_wants 73 = .ok (.iload 4, 2) := by decide +kernel
theorem dX10_wants_75 : decode cX10_wants 75 = .ok (.istore_n 3, 1) := by decide +kernel
theorem dX10_wants_76 : decode cX10_wants 76 = .ok (.iinc 4 1, 3) := by decide +kernel
theorem dX10_wants_79 : decode cX10_wants 79 = .ok (.goto (-40), 3) := by decide +kernel
theorem dX10_wants_82 : decode cX10_wants 82 = .ok (.iload_n 3, 1) := by decide +kernel
theorem dX10_wants_83 : decode cX10_wants 83 = .ok (.ireturn, 1) := by decide +kernel
theorem dX10_send_0 : decode cX10_send 0 = .ok (.aload_n 0, 1) := by decide +kernel
theorem dX10_send_1 : decode cX10_send 1 = .ok (.invokevirtual 341, 3) := by decide +kernel
theorem dX10_send_4 : decode cX10_send 4 = .ok (.istore_n 1, 1) := by decide +kernel
theorem dX10_send_5 : decode cX10_send 5 = .ok (.aload_n 0, 1) := by decide +kernel
theorem dX10_send_6 : decode cX10_send 6 = .ok (.iload_n 1, 1) := by decide +kernel
theorem dX10_send_7 : decode cX10_send 7 = .ok (.iconst (-1), 1) := by decide +kernel
theorem dX10_send_8 : decode cX10_send 8 = .ok (.if_icmp .ne 7, 3) := by decide +kernel
theorem dX10_send_11 : decode cX10_send 11 = .ok (.iconst 1, 1) := by decide +kernel
theorem dX10_send_12 : decode cX10_send 12 = .ok (.goto 4, 3) := by decide +kernel
theorem dX10_send_15 : decode cX10_send 15 = .ok (.iconst 0, 1) := by decide +kernel
theorem dX10_send_16 : decode cX10_send 16 = .ok (.putfield 63, 3) := by decide +kernel
theorem dX10_send_19 : decode cX10_send 19 = .ok (.aload_n 0, 1) := by decide +kernel
theorem dX10_send_20 : decode cX10_send 20 = .ok (.getfield 63, 3) := by decide +kernel
theorem dX10_send_23 : decode cX10_send 23 = .ok (.ifCond .le 5, 3) := by decide +kernel
theorem dX10_send_26 : decode cX10_send 26 = .ok (.iconst 0, 1) := by decide +kernel
theorem dX10_send_27 : decode cX10_send 27 = .ok (.ireturn, 1) := by decide +kernel
theorem dX10_send_28 : decode cX10_send 28 = .ok (.iconst (-1), 1) := by decide +kernel
theorem dX10_send_29 : decode cX10_send 29 = .ok (.istore_n 2, 1) := by decide +kernel
theorem dX10_send_30 : decode cX10_send 30 = .ok (.ldc_w 344, 3) := by decide +kernel
theorem dX10_send_33 : decode cX10_send 33 = .ok (.istore_n 3, 1) := by decide +kernel
theorem dX10_send_34 : decode cX10_send 34 = .ok (.iconst 0, 1) := by decide +kernel
theorem dX10_send_35 : decode cX10_send 35 = .ok (.istore 4, 2) := by decide +kernel
theorem dX10_send_37 : decode cX10_send 37 = .ok (.iload 4, 2) := by decide +kernel
theorem dX10_send_39 : decode cX10_send 39 = .ok (.aload_n 0, 1) := by decide +kernel
theorem dX10_send_40 : decode cX10_send 40 = .ok (.getfield 7, 3) := by decide +kernel
theorem dX10_send_43 : decode cX10_send 43 = .ok (.iconst 4, 1) := by decide +kernel
theorem dX10_send_44 : decode cX10_send 44 = .ok (.iaload, 1) := by decide +kernel
theorem dX10_send_45 : decode cX10_send 45 = .ok (.if_icmp .ge 97, 3) := by decide +kernel
theorem dX10_send_48 : decode cX10_send 48 = .ok (.iload_n 1, 1) := by decide +kernel
theorem dX10_send_49 : decode cX10_send 49 = .ok (.iconst 1, 1) := by decide +kernel
theorem dX10_send_50 : decode cX10_send 50 = .ok (.if_icmp .le 92, 3) := by decide +kernel
theorem dX10_send_53 : decode cX10_send 53 = .ok (.iconst 0, 1) := by decide +kernel
theorem dX10_send_54 : decode cX10_send 54 = .ok (.istore 5, 2) := by decide +kernel
theorem dX10_send_56 : decode cX10_send 56 = .ok (.iconst 0, 1) := by decide +kernel
theorem dX10_send_57 : decode cX10_send 57 = .ok (.istore 6, 2) := by decide +kernel
theorem dX10_send_59 : decode cX10_send 59 = .ok (.iload 6, 2) := by decide +kernel
theorem dX10_send_61 : decode cX10_send 61 = .ok (.bipush 64, 2) := by decide +kernel
theorem dX10_send_63 : decode cX10_send 63 = .ok (.if_icmp .ge 44, 3) := by decide +kernel
theorem dX10_send_66 : decode cX10_send 66 = .ok (.iload 5, 2) := by decide +kernel
theorem dX10_send_68 : decode cX10_send 68 = .ok (.aload_n 0, 1) := by decide +kernel
theorem dX10_send_69 : decode cX10_send 69 = .ok (.getfield 59, 3) := by decide +kernel
theorem dX10_send_72 : decode cX10_send 72 = .ok (.iload 6, 2) := by decide +kernel
theorem dX10_send_74 : decode cX10_send 74 = .ok (.baload, 1) := by decide +kernel
theorem dX10_send_75 : decode cX10_send 75 = .ok (.ifCond .eq 22, 3) := by decide +kernel
theorem dX10_send_78 : decode cX10_send 78 = .ok (.iload 6, 2) := by decide +kernel
theorem dX10_send_80 : decode cX10_send 80 = .ok (.aload_n 0, 1) := by decide +kernel
theorem dX10_send_81 : decode cX10_send 81 = .ok (.iload 4, 2) := by decide +kernel
theorem dX10_send_83 : decode cX10_send 83 = .ok (.iconst 4, 1) := by decide +kernel
theorem dX10_send_84 : decode cX10_send 84 = .ok (.invokevirtual 246, 3) := by decide +kernel
theorem dX10_send_87 : decode cX10_send 87 = .ok (.iconst (-1), 1) := by decide +kernel
theorem dX10_send_88 : decode cX10_send 88 = .ok (.ixor, 1) := by decide +kernel
theorem dX10_send_89 : decode cX10_send 89 = .ok (.iand, 1) := by decide +kernel
theorem dX10_send_90 : decode cX10_send 90 = .ok (.ifCond .ne 7, 3) := by decide +kernel
theorem dX10_send_93 : decode cX10_send 93 = .ok (.iconst 1, 1) := by decide +kernel
theorem dX10_send_94 : decode cX10_send 94 = .ok (.goto 4, 3) := by decide +kernel
theorem dX10_send_97 : decode cX10_send 97 = .ok (.iconst 0, 1) := by decide +kernel
theorem dX10_send_98 : decode cX10_send 98 = .ok (.iadd, 1) := by decide +kernel
theorem dX10_send_99 : decode cX10_send 99 = .ok (.istore 5, 2) := by decide +kernel
theorem dX10_send_101 : decode cX10_send 101 = .ok (.iinc 6 1, 3) := by decide +kernel
theorem dX10_send_104 : decode cX10_send 104 = .ok (.goto (-45), 3) := by decide +kernel
theorem dX10_send_107 : decode cX10_send 107 = .ok (.iload 5, 2) := by decide +kernel
theorem dX10_send_109 : decode cX10_send 109 = .ok (.iload_n 1, 1) := by decide +kernel
theorem dX10_send_110 : decode cX10_send 110 = .ok (.iload 5, 2) := by decide +kernel
theorem dX10_send_112 : decode cX10_send 112 = .ok (.isub, 1) := by decide +kernel
theorem dX10_send_113 : decode cX10_send 113 = .ok (.invokestatic 249, 3) := by decide +kernel
theorem dX10_send_116 : decode cX10_send 116 = .ok (.iload_n 3, 1) := by decide +kernel
theorem dX10_send_117 : decode cX10_send 117 = .ok (.if_icmp .lt 6, 3) := by decide +kernel
theorem dX10_send_120 : decode cX10_send 120 = .ok (.goto 16, 3) := by decide +kernel
theorem dX10_send_123 : decode cX10_send 123 = .ok (.iload 5, 2) := by decide +kernel
theorem dX10_send_125 : decode cX10_send 125 = .ok (.iload_n 1, 1) := by decide +kernel
theorem dX10_send_126 : decode cX10_send 126 = .ok (.iload 5, 2) := by decide +kernel
theorem dX10_send_128 : decode cX10_send 128 = .ok (.isub, 1) := by decide +kernel
theorem dX10_send_129 : decode cX10_send 129 = .ok (.invokestatic 249, 3) := by decide +kernel
theorem dX10_send_132 : decode cX10_send 132 = .ok (.istore_n 3, 1) := by decide +kernel
theorem dX10_send_133 : decode cX10_send 133 = .ok (.iload 4, 2) := by decide +kernel
theorem dX10_send_135 : decode cX10_send 135 = .ok (.istore_n 2, 1) := by decide +kernel
theorem dX10_send_136 : decode cX10_send 136 = .ok (.iinc 4 1, 3) := by decide +kernel
theorem dX10_send_139 : decode cX10_send 139 = .ok (.goto (-102), 3) := by decide +kernel
theorem dX10_send_142 : decode cX10_send 142 = .ok (.iload_n 2, 1) := by decide +kernel
theorem dX10_send_143 : decode cX10_send 143 = .ok (.ireturn, 1) := by decide +kernel
theorem dX10_about_0 : decode cX10_about 0 = .ok (.aload_n 0, 1) := by decide +kernel
theorem dX10_about_1 : decode cX10_about 1 = .ok (.aload_n 0, 1) := by decide +kernel
theorem dX10_about_2 : decode cX10_about 2 = .ok (.iload_n 1, 1) := by decide +kernel
theorem dX10_about_3 : decode cX10_about 3 = .ok (.invokevirtual 300, 3) := by decide +kernel
theorem dX10_about_6 : decode cX10_about 6 = .ok (.ifCond .ne 7, 3) := by decide +kernel
theorem dX10_about_9 : decode cX10_about 9 = .ok (.iconst 1, 1) := by decide +kernel
theorem dX10_about_10 : decode cX10_about 10 = .ok (.goto 17, 3) := by decide +kernel
theorem dX10_about_13 : decode cX10_about 13 = .ok (.iload_n 3, 1) := by decide +kernel
theorem dX10_about_14 : decode cX10_about 14 = .ok (.iconst 0, 1) := by decide +kernel
theorem dX10_about_15 : decode cX10_about 15 = .ok (.iconst 2, 1) := by decide +kernel
theorem dX10_about_16 : decode cX10_about 16 = .ok (.invokestatic 66, 3) := by decide +kernel
theorem dX10_about_19 : decode cX10_about 19 = .ok (.ifCond .ne 7, 3) := by decide +kernel
theorem dX10_about_22 : decode cX10_about 22 = .ok (.iconst 2, 1) := by decide +kernel
theorem dX10_about_23 : decode cX10_about 23 = .ok (.goto 4, 3) := by decide +kernel
theorem dX10_about_26 : decode cX10_about 26 = .ok (.iconst 0, 1) := by decide +kernel
theorem dX10_about_27 : decode cX10_about 27 = .ok (.putfield 63, 3) := by decide +kernel
theorem dX10_about_30 : decode cX10_about 30 = .ok (.aload_n 0, 1) := by decide +kernel
theorem dX10_about_31 : decode cX10_about 31 = .ok (.getfield 63, 3) := by decide +kernel
theorem dX10_about_34 : decode cX10_about 34 = .ok (.ifCond .le 5, 3) := by decide +kernel
theorem dX10_about_37 : decode cX10_about 37 = .ok (.iconst 0, 1) := by decide +kernel
theorem dX10_about_38 : decode cX10_about 38 = .ok (.ireturn, 1) := by decide +kernel
theorem dX10_about_39 : decode cX10_about 39 = .ok (.iload_n 2, 1) := by decide +kernel
theorem dX10_about_40 : decode cX10_about 40 = .ok (.iconst 1, 1) := by decide +kernel
theorem dX10_about_41 : decode cX10_about 41 = .ok (.aload_n 0, 1) := by decide +kernel
theorem dX10_about_42 : decode cX10_about 42 = .ok (.getfield 7, 3) := by decide +kernel
theorem dX10_about_45 : decode cX10_about 45 = .ok (.iconst 3, 1) := by decide +kernel
theorem dX10_about_46 : decode cX10_about 46 = .ok (.iaload, 1) := by decide +kernel
theorem dX10_about_47 : decode cX10_about 47 = .ok (.ishl, 1) := by decide +kernel
theorem dX10_about_48 : decode cX10_about 48 = .ok (.iconst 1, 1) := by decide +kernel
theorem dX10_about_49 : decode cX10_about 49 = .ok (.isub, 1) := by decide +kernel
theorem dX10_about_50 : decode cX10_about 50 = .ok (.iand, 1) := by decide +kernel
theorem dX10_about_51 : decode cX10_about 51 = .ok (.istore 4, 2) := by decide +kernel
theorem dX10_about_53 : decode cX10_about 53 = .ok (.iconst 0, 1) := by decide +kernel
theorem dX10_about_54 : decode cX10_about 54 = .ok (.istore 5, 2) := by decide +kernel
theorem dX10_about_56 : decode cX10_about 56 = .ok (.bipush 63, 2) := by decide +kernel
theorem dX10_about_58 : decode cX10_about 58 = .ok (.istore 6, 2) := by decide +kernel
theorem dX10_about_60 : decode cX10_about 60 = .ok (.iconst 0, 1) := by decide +kernel
theorem dX10_about_61 : decode cX10_about 61 = .ok (.istore 7, 2) := by decide +kernel
theorem dX10_about_63 : decode cX10_about 63 = .ok (.iconst 0, 1) := by decide +kernel
theorem dX10_about_64 : decode cX10_about 64 = .ok (.istore 8, 2) := by decide +kernel
theorem dX10_about_66 : decode cX10_about 66 = .ok (.iload 8, 2) := by decide +kernel
theorem dX10_about_68 : decode cX10_about 68 = .ok (.bipush 64, 2) := by decide +kernel
theorem dX10_about_70 : decode cX10_about 70 = .ok (.if_icmp .ge 90, 3) := by decide +kernel
theorem dX10_about_73 : decode cX10_about 73 = .ok (.iconst 0, 1) := by decide +kernel
theorem dX10_about_74 : decode cX10_about 74 = .ok (.istore 9, 2) := by decide +kernel
theorem dX10_about_76 : decode cX10_about 76 = .ok (.iconst 0, 1) := by decide +kernel
theorem dX10_about_77 : decode cX10_about 77 = .ok (.istore 10, 2) := by decide +kernel
theorem dX10_about_79 : decode cX10_about 79 = .ok (.iload 10, 2) := by decide +kernel
theorem dX10_about_81 : decode cX10_about 81 = .ok (.aload_n 0, 1) := by decide +kernel
theorem dX10_about_82 : decode cX10_about 82 = .ok (.getfield 7, 3) := by decide +kernel
theorem dX10_about_85 : decode cX10_about 85 = .ok (.iconst 3, 1) := by decide +kernel
theorem dX10_about_86 : decode cX10_about 86 = .ok (.iaload, 1) := by decide +kernel
theorem dX10_about_87 : decode cX10_about 87 = .ok (.if_icmp .ge 40, 3) := by decide +kernel
theorem dX10_about_90 : decode cX10_about 90 = .ok (.iload 9, 2) := by decide +kernel
theorem dX10_about_92 : decode cX10_about 92 = .ok (.aload_n 0, 1) := by decide +kernel
theorem dX10_about_93 : decode cX10_about 93 = .ok (.iload 10, 2) := by decide +kernel
theorem dX10_about_95 : decode cX10_about 95 = .ok (.aload_n 0, 1) := by decide +kernel
theorem dX10_about_96 : decode cX10_about 96 = .ok (.iload 10, 2) := by decide +kernel
theorem dX10_about_98 : decode cX10_about 98 = .ok (.iload_n 1, 1) := by decide +kernel
theorem dX10_about_99 : decode cX10_about 99 = .ok (.iload 8, 2) := by decide +kernel
theorem dX10_about_101 : decode cX10_about 101 = .ok (.invokevirtual 252, 3) := by decide +kernel
theorem dX10_about_104 : decode cX10_about 104 = .ok (.invokevirtual 256, 3) := by decide +kernel
theorem dX10_about_107 : decode cX10_about 107 = .ok (.ifCond .eq 10, 3) := by decide +kernel
theorem dX10_about_110 : decode cX10_about 110 = .ok (.iconst 1, 1) := by decide +kernel
theorem dX10_about_111 : decode cX10_about 111 = .ok (.iload 10, 2) := by decide +kernel
theorem dX10_about_113 : decode cX10_about 113 = .ok (.ishl, 1) := by decide +kernel
theorem dX10_about_114 : decode cX10_about 114 = .ok (.goto 4, 3) := by decide +kernel
theorem dX10_about_117 : decode cX10_about 117 = .ok (.iconst 0, 1) := by decide +kernel
theorem dX10_about_118 : decode cX10_about 118 = .ok (.ior, 1) := by decide +kernel
theorem dX10_about_119 : decode cX10_about 119 = .ok (.istore 9, 2) := by decide +kernel
theorem dX10_about_121 : decode cX10_about 121 = .ok (.iinc 10 1, 3) := by decide +kernel
theorem dX10_about_124 : decode cX10_about 124 = .ok (.goto (-45), 3) := by decide +kernel
theorem dX10_about_127 : decode cX10_about 127 = .ok (.iload 9, 2) := by decide +kernel
theorem dX10_about_129 : decode cX10_about 129 = .ok (.iload 4, 2) := by decide +kernel
theorem dX10_about_131 : decode cX10_about 131 = .ok (.if_icmp .eq 6, 3) := by decide +kernel
theorem dX10_about_134 : decode cX10_about 134 = .ok (.goto 20, 3) := by decide +kernel
theorem dX10_about_137 : decode cX10_about 137 = .ok (.iinc 5 1, 3) := by decide +kernel
theorem dX10_about_140 : decode cX10_about 140 = .ok (.iload 6, 2) := by decide +kernel
theorem dX10_about_142 : decode cX10_about 142 = .ok (.iload 8, 2) := by decide +kernel
theorem dX10_about_144 : decode cX10_about 144 = .ok (.iand, 1) := by decide +kernel
theorem dX10_about_145 : decode cX10_about 145 = .ok (.istore 6, 2) := by decide +kernel
theorem dX10_about_147 : decode cX10_about 147 = .ok (.iload 7, 2) := by decide +kernel
theorem dX10_about_149 : decode cX10_about 149 = .ok (.iload 8, 2) := by decide +kernel
theorem dX10_about_151 : decode cX10_about 151 = .ok (.ior, 1) := by decide +kernel
theorem dX10_about_152 : decode cX10_about 152 = .ok (.istore 7, 2) := by decide +kernel
theorem dX10_about_154 : decode cX10_about 154 = .ok (.iinc 8 1, 3) := by decide +kernel
theorem dX10_about_157 : decode cX10_about 157 = .ok (.goto (-91), 3) := by decide +kernel
theorem dX10_about_160 : decode cX10_about 160 = .ok (.iload_n 3, 1) := by decide +kernel
theorem dX10_about_161 : decode cX10_about 161 = .ok (.ifCond .ne 8, 3) := by decide +kernel
theorem dX10_about_164 : decode cX10_about 164 = .ok (.iload 5, 2) := by decide +kernel
theorem dX10_about_166 : decode cX10_about 166 = .ok (.goto 24, 3) := by decide +kernel
theorem dX10_about_169 : decode cX10_about 169 = .ok (.iload 5, 2) := by decide +kernel
theorem dX10_about_171 : decode cX10_about 171 = .ok (.ifCond .ne 7, 3) := by decide +kernel
theorem dX10_about_174 : decode cX10_about 174 = .ok (.iconst 0, 1) := by decide +kernel
theorem dX10_about_175 : decode cX10_about 175 = .ok (.goto 15, 3) := by decide +kernel
theorem dX10_about_178 : decode cX10_about 178 = .ok (.iload_n 3, 1) := by decide +kernel
theorem dX10_about_179 : decode cX10_about 179 = .ok (.iconst 1, 1) := by decide +kernel
theorem dX10_about_180 : decode cX10_about 180 = .ok (.if_icmp .ne 8, 3) := by decide +kernel
theorem dX10_about_183 : decode cX10_about 183 = .ok (.iload 6, 2) := by decide +kernel
theorem dX10_about_185 : decode cX10_about 185 = .ok (.goto 5, 3) := by decide +kernel
theorem dX10_about_188 : decode cX10_about 188 = .ok (.iload 7, 2) := by decide +kernel
theorem dX10_about_190 : decode cX10_about 190 = .ok (.ireturn, 1) := by decide +kernel
theorem dX10_ahead_0 : decode cX10_ahead 0 = .ok (.aload_n 0, 1) := by decide +kernel
theorem dX10_ahead_1 : decode cX10_ahead 1 = .ok (.aload_n 0, 1) := by decide +kernel
theorem dX10_ahead_2 : decode cX10_ahead 2 = .ok (.iload_n 1, 1) := by decide +kernel
theorem dX10_ahead_3 : decode cX10_ahead 3 = .ok (.invokevirtual 285, 3) := by decide +kernel
theorem dX10_ahead_6 : decode cX10_ahead 6 = .ok (.ifCond .ne 7, 3) := by decide +kernel
theorem dX10_ahead_9 : decode cX10_ahead 9 = .ok (.iconst 1, 1) := by decide +kernel
theorem dX10_ahead_10 : decode cX10_ahead 10 = .ok (.goto 31, 3) := by decide +kernel
theorem dX10_ahead_13 : decode cX10_ahead 13 = .ok (.iload_n 2, 1) := by decide +kernel
theorem dX10_ahead_14 : decode cX10_ahead 14 = .ok (.iconst 0, 1) := by decide +kernel
theorem dX10_ahead_15 : decode cX10_ahead 15 = .ok (.bipush 30, 2) := by decide +kernel
theorem dX10_ahead_17 : decode cX10_ahead 17 = .ok (.invokestatic 66, 3) := by decide +kernel
theorem dX10_ahead_20 : decode cX10_ahead 20 = .ok (.ifCond .ne 7, 3) := by decide +kernel
theorem dX10_ahead_23 : decode cX10_ahead 23 = .ok (.iconst 2, 1) := by decide +kernel
theorem dX10_ahead_24 : decode cX10_ahead 24 = .ok (.goto 17, 3) := by decide +kernel
theorem dX10_ahead_27 : decode cX10_ahead 27 = .ok (.iload_n 3, 1) := by decide +kernel
theorem dX10_ahead_28 : decode cX10_ahead 28 = .ok (.iconst 0, 1) := by decide +kernel
theorem dX10_ahead_29 : decode cX10_ahead 29 = .ok (.iconst 1, 1) := by decide +kernel
theorem dX10_ahead_30 : decode cX10_ahead 30 = .ok (.invokestatic 66, 3) := by decide +kernel
theorem dX10_ahead_33 : decode cX10_ahead 33 = .ok (.ifCond .ne 7, 3) := by decide +kernel
theorem dX10_ahead_36 : decode cX10_ahead 36 = .ok (.iconst 3, 1) := by decide +kernel
theorem dX10_ahead_37 : decode cX10_ahead 37 = .ok (.goto 4, 3) := by decide +kernel
theorem dX10_ahead_40 : decode cX10_ahead 40 = .ok (.iconst 0, 1) := by decide +kernel
theorem dX10_ahead_41 : decode cX10_ahead 41 = .ok (.putfield 63, 3) := by decide +kernel
theorem dX10_ahead_44 : decode cX10_ahead 44 = .ok (.aload_n 0, 1) := by decide +kernel
theorem dX10_ahead_45 : decode cX10_ahead 45 = .ok (.getfield 63, 3) := by decide +kernel
theorem dX10_ahead_48 : decode cX10_ahead 48 = .ok (.ifCond .le 5, 3) := by decide +kernel
theorem dX10_ahead_51 : decode cX10_ahead 51 = .ok (.iconst 0, 1) := by decide +kernel
theorem dX10_ahead_52 : decode cX10_ahead 52 = .ok (.ireturn, 1) := by decide +kernel
theorem dX10_ahead_53 : decode cX10_ahead 53 = .ok (.aload_n 0, 1) := by decide +kernel
theorem dX10_ahead_54 : decode cX10_ahead 54 = .ok (.invokevirtual 171, 3) := by decide +kernel
theorem dX10_ahead_57 : decode cX10_ahead 57 = .ok (.iconst 0, 1) := by decide +kernel
theorem dX10_ahead_58 : decode cX10_ahead 58 = .ok (.istore 4, 2) := by decide +kernel
theorem dX10_ahead_60 : decode cX10_ahead 60 = .ok (.iload 4, 2) := by decide +kernel
theorem dX10_ahead_62 : decode cX10_ahead 62 = .ok (.iload_n 2, 1) := by decide +kernel
theorem dX10_ahead_63 : decode cX10_ahead 63 = .ok (.if_icmp .ge 16, 3) := by decide +kernel
theorem dX10_ahead_66 : decode cX10_ahead 66 = .ok (.aload_n 0, 1) := by decide +kernel
theorem dX10_ahead_67 : decode cX10_ahead 67 = .ok (.iconst 0, 1) := by decide +kernel
theorem dX10_ahead_68 : decode cX10_ahead 68 = .ok (.invokevirtual 282, 3) := by decide +kernel
theorem dX10_ahead_71 : decode cX10_ahead 71 = .ok (.istore 5, 2) := by decide +kernel
theorem dX10_ahead_73 : decode cX10_ahead 73 = .ok (.iinc 4 1, 3) := by decide +kernel
theorem dX10_ahead_76 : decode cX10_ahead 76 = .ok (.goto (-16), 3) := by decide +kernel
theorem dX10_ahead_79 : decode cX10_ahead 79 = .ok (.iload_n 3, 1) := by decide +kernel
theorem dX10_ahead_80 : decode cX10_ahead 80 = .ok (.ifCond .ne 12, 3) := by decide +kernel
theorem dX10_ahead_83 : decode cX10_ahead 83 = .ok (.aload_n 0, 1) := by decide +kernel
theorem dX10_ahead_84 : decode cX10_ahead 84 = .ok (.iload_n 1, 1) := by decide +kernel
theorem dX10_ahead_85 : decode cX10_ahead 85 = .ok (.iconst 4, 1) := by decide +kernel
theorem dX10_ahead_86 : decode cX10_ahead 86 = .ok (.invokevirtual 70, 3) := by decide +kernel
theorem dX10_ahead_89 : decode cX10_ahead 89 = .ok (.goto 16, 3) := by decide +kernel
theorem dX10_ahead_92 : decode cX10_ahead 92 = .ok (.iload_n 2, 1) := by decide +kernel
theorem dX10_ahead_93 : decode cX10_ahead 93 = .ok (.ifCond .ne 7, 3) := by decide +kernel
theorem dX10_ahead_96 : decode cX10_ahead 96 = .ok (.iconst 0, 1) := by decide +kernel
theorem dX10_ahead_97 : decode cX10_ahead 97 = .ok (.goto 8, 3) := by decide +kernel
theorem dX10_ahead_100 : decode cX10_ahead 100 = .ok (.aload_n 0, 1) := by decide +kernel
theorem dX10_ahead_101 : decode cX10_ahead 101 = .ok (.iload_n 1, 1) := by decide +kernel
theorem dX10_ahead_102 : decode cX10_ahead 102 = .ok (.invokevirtual 294, 3) := by decide +kernel
theorem dX10_ahead_105 : decode cX10_ahead 105 = .ok (.istore 4, 2) := by decide +kernel
theorem dX10_ahead_107 : decode cX10_ahead 107 = .ok (.aload_n 0, 1) := by decide +kernel
theorem dX10_ahead_108 : decode cX10_ahead 108 = .ok (.invokevirtual 181, 3) := by decide +kernel
theorem dX10_ahead_111 : decode cX10_ahead 111 = .ok (.iload 4, 2) := by decide +kernel
theorem dX10_ahead_113 : decode cX10_ahead 113 = .ok (.ireturn, 1) := by decide +kernel
theorem dX10_last_0 : decode cX10_last 0 = .ok (.aload_n 0, 1) := by decide +kernel
theorem dX10_last_1 : decode cX10_last 1 = .ok (.aload_n 0, 1) := by decide +kernel
theorem dX10_last_2 : decode cX10_last 2 = .ok (.iload_n 1, 1) := by decide +kernel
theorem dX10_last_3 : decode cX10_last 3 = .ok (.invokevirtual 300, 3) := by decide +kernel
theorem dX10_last_6 : decode cX10_last 6 = .ok (.ifCond .ne 7, 3) := by decide +kernel
theorem dX10_last_9 : decode cX10_last 9 = .ok (.iconst 1, 1) := by decide +kernel
theorem dX10_last_10 : decode cX10_last 10 = .ok (.goto 4, 3) := by decide +kernel
theorem dX10_last_13 : decode cX10_last 13 = .ok (.iconst 0, 1) := by decide +kernel
theorem dX10_last_14 : decode cX10_last 14 = .ok (.putfield 63, 3) := by decide +kernel
theorem dX10_last_17 : decode cX10_last 17 = .ok (.aload_n 0, 1) := by decide +kernel
theorem dX10_last_18 : decode cX10_last 18 = .ok (.getfield 63, 3) := by decide +kernel
theorem dX10_last_21 : decode cX10_last 21 = .ok (.ifCond .le 5, 3) := by decide +kernel
theorem dX10_last_24 : decode cX10_last 24 = .ok (.iconst 0, 1) := by decide +kernel
theorem dX10_last_25 : decode cX10_last 25 = .ok (.ireturn, 1) := by decide +kernel
theorem dX10_last_26 : decode cX10_last 26 = .ok (.aload_n 0, 1) := by decide +kernel
theorem dX10_last_27 : decode cX10_last 27 = .ok (.invokevirtual 171, 3) := by decide +kernel
theorem dX10_last_30 : decode cX10_last 30 = .ok (.iconst (-1), 1) := by decide +kernel
theorem dX10_last_31 : decode cX10_last 31 = .ok (.istore_n 3, 1) := by decide +kernel
theorem dX10_last_32 : decode cX10_last 32 = .ok (.iconst 0, 1) := by decide +kernel
theorem dX10_last_33 : decode cX10_last 33 = .ok (.istore 4, 2) := by decide +kernel
theorem dX10_last_35 : decode cX10_last 35 = .ok (.iconst 1, 1) := by decide +kernel
theorem dX10_last_36 : decode cX10_last 36 = .ok (.istore 5, 2) := by decide +kernel
theorem dX10_last_38 : decode cX10_last 38 = .ok (.iload 5, 2) := by decide +kernel
theorem dX10_last_40 : decode cX10_last 40 = .ok (.bipush 30, 2) := by decide +kernel
theorem dX10_last_42 : decode cX10_last 42 = .ok (.if_icmp .gt 40, 3) := by decide +kernel
theorem dX10_last_45 : decode cX10_last 45 = .ok (.aload_n 0, 1) := by decide +kernel
theorem dX10_last_46 : decode cX10_last 46 = .ok (.iconst 0, 1) := by decide +kernel
theorem dX10_last_47 : decode cX10_last 47 = .ok (.invokevirtual 282, 3) := by decide +kernel
theorem dX10_last_50 : decode cX10_last 50 = .ok (.istore 6, 2) := by decide +kernel
theorem dX10_last_52 : decode cX10_last 52 = .ok (.aload_n 0, 1) := by decide +kernel
theorem dX10_last_53 : decode cX10_last 53 = .ok (.getfield 35, 3) := by decide +kernel
theorem dX10_last_56 : decode cX10_last 56 = .ok (.iload_n 1, 1) := by decide +kernel
theorem dX10_last_57 : decode cX10_last 57 = .ok (.iaload, 1) := by decide +kernel
theorem dX10_last_58 : decode cX10_last 58 = .ok (.iconst (-1), 1) := by decide +kernel
theorem dX10_last_59 : decode cX10_last 59 = .ok (.if_icmp .ne 9, 3) := by decide +kernel
theorem dX10_last_62 : decode cX10_last 62 = .ok (.iinc 4 1, 3) := by decide +kernel
theorem dX10_last_65 : decode cX10_last 65 = .ok (.goto 11, 3) := by decide +kernel
theorem dX10_last_68 : decode cX10_last 68 = .ok (.iload_n 3, 1) := by decide +kernel
theorem dX10_last_69 : decode cX10_last 69 = .ok (.iconst (-1), 1) := by decide +kernel
theorem dX10_last_70 : decode cX10_last 70 = .ok (.if_icmp .ne 6, 3) := by decide +kernel
theorem dX10_last_73 : decode cX10_last 73 = .ok (.iload 5, 2) := by decide +kernel
theorem dX10_last_75 : decode cX10_last 75 = .ok (.istore_n 3, 1) := by decide +kernel
theorem dX10_last_76 : decode cX10_last 76 = .ok (.iinc 5 1, 3) := by decide +kernel
theorem dX10_last_79 : decode cX10_last 79 = .ok (.goto (-41), 3) := by decide +kernel
theorem dX10_last_82 : decode cX10_last 82 = .ok (.aload_n 0, 1) := by decide +kernel
theorem dX10_last_83 : decode cX10_last 83 = .ok (.invokevirtual 181, 3) := by decide +kernel
theorem dX10_last_86 : decode cX10_last 86 = .ok (.iload_n 2, 1) := by decide +kernel
theorem dX10_last_87 : decode cX10_last 87 = .ok (.ifCond .eq 8, 3) := by decide +kernel
theorem dX10_last_90 : decode cX10_last 90 = .ok (.iload 4, 2) := by decide +kernel
theorem dX10_last_92 : decode cX10_last 92 = .ok (.goto 4, 3) := by decide +kernel
theorem dX10_last_95 : decode cX10_last 95 = .ok (.iload_n 3, 1) := by decide +kernel
theorem dX10_last_96 : decode cX10_last 96 = .ok (.ireturn, 1) := by decide +kernel
theorem dX10_comes_0 : decode cX10_comes 0 = .ok (.aload_n 0, 1) := by decide +kernel
theorem dX10_comes_1 : decode cX10_comes 1 = .ok (.aload_n 0, 1) := by decide +kernel
theorem dX10_comes_2 : decode cX10_comes 2 = .ok (.iload_n 1, 1) := by decide +kernel
theorem dX10_comes_3 : decode cX10_comes 3 = .ok (.invokevirtual 285, 3) := by decide +kernel
theorem dX10_comes_6 : decode cX10_comes 6 = .ok (.ifCond .ne 7, 3) := by decide +kernel
theorem dX10_comes_9 : decode cX10_comes 9 = .ok (.iconst 1, 1) := by decide +kernel
theorem dX10_comes_10 : decode cX10_comes 10 = .ok (.goto 4, 3) := by decide +kernel
theorem dX10_comes_13 : decode cX10_comes 13 = .ok (.iconst 0, 1) := by decide +kernel
theorem dX10_comes_14 : decode cX10_comes 14 = .ok (.putfield 63, 3) := by decide +kernel
theorem dX10_comes_17 : decode cX10_comes 17 = .ok (.aload_n 0, 1) := by decide +kernel
theorem dX10_comes_18 : decode cX10_comes 18 = .ok (.getfield 63, 3) := by decide +kernel
theorem dX10_comes_21 : decode cX10_comes 21 = .ok (.ifCond .le 5, 3) := by decide +kernel
theorem dX10_comes_24 : decode cX10_comes 24 = .ok (.iconst 0, 1) := by decide +kernel
theorem dX10_comes_25 : decode cX10_comes 25 = .ok (.ireturn, 1) := by decide +kernel
theorem dX10_comes_26 : decode cX10_comes 26 = .ok (.aload_n 0, 1) := by decide +kernel
theorem dX10_comes_27 : decode cX10_comes 27 = .ok (.invokevirtual 171, 3) := by decide +kernel
theorem dX10_comes_30 : decode cX10_comes 30 = .ok (.iconst (-1), 1) := by decide +kernel
theorem dX10_comes_31 : decode cX10_comes 31 = .ok (.istore_n 2, 1) := by decide +kernel
theorem dX10_comes_32 : decode cX10_comes 32 = .ok (.iconst 1, 1) := by decide +kernel
theorem dX10_comes_33 : decode cX10_comes 33 = .ok (.istore_n 3, 1) := by decide +kernel
theorem dX10_comes_34 : decode cX10_comes 34 = .ok (.iload_n 3, 1) := by decide +kernel
theorem dX10_comes_35 : decode cX10_comes 35 = .ok (.bipush 30, 2) := by decide +kernel
theorem dX10_comes_37 : decode cX10_comes 37 = .ok (.if_icmp .gt 32, 3) := by decide +kernel
theorem dX10_comes_40 : decode cX10_comes 40 = .ok (.iload_n 2, 1) := by decide +kernel
theorem dX10_comes_41 : decode cX10_comes 41 = .ok (.iconst (-1), 1) := by decide +kernel
theorem dX10_comes_42 : decode cX10_comes 42 = .ok (.if_icmp .ne 27, 3) := by decide +kernel
theorem dX10_comes_45 : decode cX10_comes 45 = .ok (.aload_n 0, 1) := by decide +kernel
theorem dX10_comes_46 : decode cX10_comes 46 = .ok (.iconst 0, 1) := by decide +kernel
theorem dX10_comes_47 : decode cX10_comes 47 = .ok (.invokevirtual 282, 3) := by decide +kernel
theorem dX10_comes_50 : decode cX10_comes 50 = .ok (.istore 4, 2) := by decide +kernel
theorem dX10_comes_52 : decode cX10_comes 52 = .ok (.aload_n 0, 1) := by decide +kernel
theorem dX10_comes_53 : decode cX10_comes 53 = .ok (.getfield 41, 3) := by decide +kernel
theorem dX10_comes_56 : decode cX10_comes 56 = .ok (.iload_n 1, 1) := by decide +kernel
theorem dX10_comes_57 : decode cX10_comes 57 = .ok (.iaload, 1) := by decide +kernel
theorem dX10_comes_58 : decode cX10_comes 58 = .ok (.ifCond .le 5, 3) := by decide +kernel
theorem dX10_comes_61 : decode cX10_comes 61 = .ok (.iload_n 3, 1) := by decide +kernel
theorem dX10_comes_62 : decode cX10_comes 62 = .ok (.istore_n 2, 1) := by decide +kernel
theorem dX10_comes_63 : decode cX10_comes 63 = .ok (.iinc 3 1, 3) := by decide +kernel
theorem dX10_comes_66 : decode cX10_comes 66 = .ok (.goto (-32), 3) := by decide +kernel
theorem dX10_comes_69 : decode cX10_comes 69 = .ok (.aload_n 0, 1) := by decide +kernel
theorem dX10_comes_70 : decode cX10_comes 70 = .ok (.invokevirtual 181, 3) := by decide +kernel
theorem dX10_comes_73 : decode cX10_comes 73 = .ok (.iload_n 2, 1) := by decide +kernel
theorem dX10_comes_74 : decode cX10_comes 74 = .ok (.ireturn, 1) := by decide +kernel
theorem dX10_steps_0 : decode cX10_steps 0 = .ok (.aload_n 0, 1) := by decide +kernel
theorem dX10_steps_1 : decode cX10_steps 1 = .ok (.iload_n 1, 1) := by decide +kernel
theorem dX10_steps_2 : decode cX10_steps 2 = .ok (.iconst (-1), 1) := by decide +kernel
theorem dX10_steps_3 : decode cX10_steps 3 = .ok (.if_icmp .eq 17, 3) := by decide +kernel
theorem dX10_steps_6 : decode cX10_steps 6 = .ok (.iload_n 1, 1) := by decide +kernel
theorem dX10_steps_7 : decode cX10_steps 7 = .ok (.iconst 0, 1) := by decide +kernel
theorem dX10_steps_8 : decode cX10_steps 8 = .ok (.bipush 19, 2) := by decide +kernel
theorem dX10_steps_10 : decode cX10_steps 10 = .ok (.invokestatic 66, 3) := by decide +kernel
theorem dX10_steps_13 : decode cX10_steps 13 = .ok (.ifCond .ne 7, 3) := by decide +kernel
theorem dX10_steps_16 : decode cX10_steps 16 = .ok (.iconst 1, 1) := by decide +kernel
theorem dX10_steps_17 : decode cX10_steps 17 = .ok (.goto 4, 3) := by decide +kernel
theorem dX10_steps_20 : decode cX10_steps 20 = .ok (.iconst 0, 1) := by decide +kernel
theorem dX10_steps_21 : decode cX10_steps 21 = .ok (.putfield 63, 3) := by decide +kernel
theorem dX10_steps_24 : decode cX10_steps 24 = .ok (.aload_n 0, 1) := by decide +kernel
theorem dX10_steps_25 : decode cX10_steps 25 = .ok (.getfield 63, 3) := by decide +kernel
theorem dX10_steps_28 : decode cX10_steps 28 = .ok (.ifCond .le 5, 3) := by decide +kernel
theorem dX10_steps_31 : decode cX10_steps 31 = .ok (.iconst 0, 1) := by decide +kernel
theorem dX10_steps_32 : decode cX10_steps 32 = .ok (.ireturn, 1) := by decide +kernel
theorem dX10_steps_33 : decode cX10_steps 33 = .ok (.iload_n 1, 1) := by decide +kernel
theorem dX10_steps_34 : decode cX10_steps 34 = .ok (.iconst (-1), 1) := by decide +kernel
theorem dX10_steps_35 : decode cX10_steps 35 = .ok (.if_icmp .ne 24, 3) := by decide +kernel
theorem dX10_steps_38 : decode cX10_steps 38 = .ok (.bipush 20, 2) := by decide +kernel
theorem dX10_steps_40 : decode cX10_steps 40 = .ok (.aload_n 0, 1) := by decide +kernel
theorem dX10_steps_41 : decode cX10_steps 41 = .ok (.getfield 7, 3) := by decide +kernel
theorem dX10_steps_44 : decode cX10_steps 44 = .ok (.iconst 5, 1) := by decide +kernel
theorem dX10_steps_45 : decode cX10_steps 45 = .ok (.iaload, 1) := by decide +kernel
theorem dX10_steps_46 : decode cX10_steps 46 = .ok (.iadd, 1) := by decide +kernel
theorem dX10_steps_47 : decode cX10_steps 47 = .ok (.iconst 1, 1) := by decide +kernel
theorem dX10_steps_48 : decode cX10_steps 48 = .ok (.isub, 1) := by decide +kernel
theorem dX10_steps_49 : decode cX10_steps 49 = .ok (.aload_n 0, 1) := by decide +kernel
theorem dX10_steps_50 : decode cX10_steps 50 = .ok (.getfield 7, 3) := by decide +kernel
theorem dX10_steps_53 : decode cX10_steps 53 = .ok (.iconst 5, 1) := by decide +kernel
theorem dX10_steps_54 : decode cX10_steps 54 = .ok (.iaload, 1) := by decide +kernel
theorem dX10_steps_55 : decode cX10_steps 55 = .ok (.idiv, 1) := by decide +kernel
theorem dX10_steps_56 : decode cX10_steps 56 = .ok (.goto 11, 3) := by decide +kernel
theorem dX10_steps_59 : decode cX10_steps 59 = .ok (.iload_n 1, 1) := by decide +kernel
theorem dX10_steps_60 : decode cX10_steps 60 = .ok (.aload_n 0, 1) := by decide +kernel
theorem dX10_steps_61 : decode cX10_steps 61 = .ok (.getfield 7, 3) := by decide +kernel
theorem dX10_steps_64 : decode cX10_steps 64 = .ok (.iconst 5, 1) := by decide +kernel
theorem dX10_steps_65 : decode cX10_steps 65 = .ok (.iaload, 1) := by decide +kernel
theorem dX10_steps_66 : decode cX10_steps 66 = .ok (.idiv, 1) := by decide +kernel
theorem dX10_steps_67 : decode cX10_steps 67 = .ok (.ireturn, 1) := by decide +kernel
theorem dX10_trial_0 : decode cX10_trial 0 = .ok (.aload_n 0, 1) := by decide +kernel
theorem dX10_trial_1 : decode cX10_trial 1 = .ok (.iload_n 1, 1) := by decide +kernel
theorem dX10_trial_2 : decode cX10_trial 2 = .ok (.iconst 0, 1) := by decide +kernel
theorem dX10_trial_3 : decode cX10_trial 3 = .ok (.bipush 30, 2) := by decide +kernel
theorem dX10_trial_5 : decode cX10_trial 5 = .ok (.invokestatic 66, 3) := by decide +kernel
theorem dX10_trial_8 : decode cX10_trial 8 = .ok (.ifCond .ne 7, 3) := by decide +kernel
theorem dX10_trial_11 : decode cX10_trial 11 = .ok (.iconst 1, 1) := by decide +kernel
theorem dX10_trial_12 : decode cX10_trial 12 = .ok (.goto 4, 3) := by decide +kernel
theorem dX10_trial_15 : decode cX10_trial 15 = .ok (.iconst 0, 1) := by decide +kernel
theorem dX10_trial_16 : decode cX10_trial 16 = .ok (.putfield 63, 3) := by decide +kernel
theorem dX10_trial_19 : decode cX10_trial 19 = .ok (.aload_n 0, 1) := by decide +kernel
theorem dX10_trial_20 : decode cX10_trial 20 = .ok (.getfield 63, 3) := by decide +kernel
theorem dX10_trial_23 : decode cX10_trial 23 = .ok (.ifCond .le 5, 3) := by decide +kernel
theorem dX10_trial_26 : decode cX10_trial 26 = .ok (.iconst 0, 1) := by decide +kernel
theorem dX10_trial_27 : decode cX10_trial 27 = .ok (.ireturn, 1) := by decide +kernel
theorem dX10_trial_28 : decode cX10_trial 28 = .ok (.aload_n 0, 1) := by decide +kernel
theorem dX10_trial_29 : decode cX10_trial 29 = .ok (.invokevirtual 171, 3) := by decide +kernel
theorem dX10_trial_32 : decode cX10_trial 32 = .ok (.aload_n 0, 1) := by decide +kernel
theorem dX10_trial_33 : decode cX10_trial 33 = .ok (.iload_n 1, 1) := by decide +kernel
theorem dX10_trial_34 : decode cX10_trial 34 = .ok (.invokevirtual 309, 3) := by decide +kernel
theorem dX10_trial_37 : decode cX10_trial 37 = .ok (.istore_n 2, 1) := by decide +kernel
theorem dX10_trial_38 : decode cX10_trial 38 = .ok (.aload_n 0, 1) := by decide +kernel
theorem dX10_trial_39 : decode cX10_trial 39 = .ok (.invokevirtual 181, 3) := by decide +kernel
theorem dX10_trial_42 : decode cX10_trial 42 = .ok (.iload_n 2, 1) := by decide +kernel
theorem dX10_trial_43 : decode cX10_trial 43 = .ok (.ireturn, 1) := by decide +kernel
theorem dX10_span_0 : decode cX10_span 0 = .ok (.aload_n 0, 1) := by decide +kernel
theorem dX10_span_1 : decode cX10_span 1 = .ok (.iload_n 1, 1) := by decide +kernel
theorem dX10_span_2 : decode cX10_span 2 = .ok (.iconst 0, 1) := by decide +kernel
theorem dX10_span_3 : decode cX10_span 3 = .ok (.bipush 30, 2) := by decide +kernel
theorem dX10_span_5 : decode cX10_span 5 = .ok (.invokestatic 66, 3) := by decide +kernel
theorem dX10_span_8 : decode cX10_span 8 = .ok (.ifCond .ne 7, 3) := by decide +kernel
theorem dX10_span_11 : decode cX10_span 11 = .ok (.iconst 1, 1) := by decide +kernel
theorem dX10_span_12 : decode cX10_span 12 = .ok (.goto 4, 3) := by decide +kernel
theorem dX10_span_15 : decode cX10_span 15 = .ok (.iconst 0, 1) := by decide +kernel
theorem dX10_span_16 : decode cX10_span 16 = .ok (.putfield 63, 3) := by decide +kernel
theorem dX10_span_19 : decode cX10_span 19 = .ok (.aload_n 0, 1) := by decide +kernel
theorem dX10_span_20 : decode cX10_span 20 = .ok (.getfield 63, 3) := by decide +kernel
theorem dX10_span_23 : decode cX10_span 23 = .ok (.ifCond .le 5, 3) := by decide +kernel
theorem dX10_span_26 : decode cX10_span 26 = .ok (.iconst 0, 1) := by decide +kernel
theorem dX10_span_27 : decode cX10_span 27 = .ok (.ireturn, 1) := by decide +kernel
theorem dX10_span_28 : decode cX10_span 28 = .ok (.aload_n 0, 1) := by decide +kernel
theorem dX10_span_29 : decode cX10_span 29 = .ok (.invokevirtual 171, 3) := by decide +kernel
theorem dX10_span_32 : decode cX10_span 32 = .ok (.iconst (-1), 1) := by decide +kernel
theorem dX10_span_33 : decode cX10_span 33 = .ok (.istore_n 3, 1) := by decide +kernel
theorem dX10_span_34 : decode cX10_span 34 = .ok (.iconst 1, 1) := by decide +kernel
theorem dX10_span_35 : decode cX10_span 35 = .ok (.istore 4, 2) := by decide +kernel
theorem dX10_span_37 : decode cX10_span 37 = .ok (.iload 4, 2) := by decide +kernel
theorem dX10_span_39 : decode cX10_span 39 = .ok (.bipush 6, 2) := by decide +kernel
theorem dX10_span_41 : decode cX10_span 41 = .ok (.if_icmp .gt 59, 3) := by decide +kernel
theorem dX10_span_44 : decode cX10_span 44 = .ok (.aload_n 0, 1) := by decide +kernel
theorem dX10_span_45 : decode cX10_span 45 = .ok (.getfield 7, 3) := by decide +kernel
theorem dX10_span_48 : decode cX10_span 48 = .ok (.bipush 9, 2) := by decide +kernel
theorem dX10_span_50 : decode cX10_span 50 = .ok (.iload 4, 2) := by decide +kernel
theorem dX10_span_52 : decode cX10_span 52 = .ok (.iastore, 1) := by decide +kernel
theorem dX10_span_53 : decode cX10_span 53 = .ok (.aload_n 0, 1) := by decide +kernel
theorem dX10_span_54 : decode cX10_span 54 = .ok (.iload_n 1, 1) := by decide +kernel
theorem dX10_span_55 : decode cX10_span 55 = .ok (.invokevirtual 309, 3) := by decide +kernel
theorem dX10_span_58 : decode cX10_span 58 = .ok (.istore 5, 2) := by decide +kernel
theorem dX10_span_60 : decode cX10_span 60 = .ok (.aload_n 0, 1) := by decide +kernel
theorem dX10_span_61 : decode cX10_span 61 = .ok (.invokevirtual 181, 3) := by decide +kernel
theorem dX10_span_64 : decode cX10_span 64 = .ok (.iload_n 3, 1) := by decide +kernel
theorem dX10_span_65 : decode cX10_span 65 = .ok (.iconst (-1), 1) := by decide +kernel
theorem dX10_span_66 : decode cX10_span 66 = .ok (.if_icmp .ne 8, 3) := by decide +kernel
theorem dX10_span_69 : decode cX10_span 69 = .ok (.iload 5, 2) := by decide +kernel
theorem dX10_span_71 : decode cX10_span 71 = .ok (.goto 22, 3) := by decide +kernel
theorem dX10_span_74 : decode cX10_span 74 = .ok (.iload_n 2, 1) := by decide +kernel
theorem dX10_span_75 : decode cX10_span 75 = .ok (.ifCond .eq 12, 3) := by decide +kernel
theorem dX10_span_78 : decode cX10_span 78 = .ok (.iload_n 3, 1) := by decide +kernel
theorem dX10_span_79 : decode cX10_span 79 = .ok (.iload 5, 2) := by decide +kernel
theorem dX10_span_81 : decode cX10_span 81 = .ok (.invokestatic 249, 3) := by decide +kernel
theorem dX10_span_84 : decode cX10_span 84 = .ok (.goto 9, 3) := by decide +kernel
theorem dX10_span_87 : decode cX10_span 87 = .ok (.iload_n 3, 1) := by decide +kernel
theorem dX10_span_88 : decode cX10_span 88 = .ok (.iload 5, 2) := by decide +kernel
theorem dX10_span_90 : decode cX10_span 90 = .ok (.invokestatic 279, 3) := by decide +kernel
theorem dX10_span_93 : decode cX10_span 93 = .ok (.istore_n 3, 1) := by decide +kernel
theorem dX10_span_94 : decode cX10_span 94 = .ok (.iinc 4 1, 3) := by decide +kernel
theorem dX10_span_97 : decode cX10_span 97 = .ok (.goto (-60), 3) := by decide +kernel
theorem dX10_span_100 : decode cX10_span 100 = .ok (.iload_n 3, 1) := by decide +kernel
theorem dX10_span_101 : decode cX10_span 101 = .ok (.ireturn, 1) := by decide +kernel
theorem dX10_logged_0 : decode cX10_logged 0 = .ok (.aload_n 0, 1) := by decide +kernel
theorem dX10_logged_1 : decode cX10_logged 1 = .ok (.getfield 7, 3) := by decide +kernel
theorem dX10_logged_4 : decode cX10_logged 4 = .ok (.bipush 107, 2) := by decide +kernel
theorem dX10_logged_6 : decode cX10_logged 6 = .ok (.iconst 5, 1) := by decide +kernel
theorem dX10_logged_7 : decode cX10_logged 7 = .ok (.iload_n 1, 1) := by decide +kernel
theorem dX10_logged_8 : decode cX10_logged 8 = .ok (.imul, 1) := by decide +kernel
theorem dX10_logged_9 : decode cX10_logged 9 = .ok (.iadd, 1) := by decide +kernel
theorem dX10_logged_10 : decode cX10_logged 10 = .ok (.iload_n 2, 1) := by decide +kernel
theorem dX10_logged_11 : decode cX10_logged 11 = .ok (.iadd, 1) := by decide +kernel
theorem dX10_logged_12 : decode cX10_logged 12 = .ok (.iaload, 1) := by decide +kernel
theorem dX10_logged_13 : decode cX10_logged 13 = .ok (.ireturn, 1) := by decide +kernel
theorem dX10_rowsOf_0 : decode cX10_rowsOf 0 = .ok (.iconst 0, 1) := by decide +kernel
theorem dX10_rowsOf_1 : decode cX10_rowsOf 1 = .ok (.istore_n 3, 1) := by decide +kernel
theorem dX10_rowsOf_2 : decode cX10_rowsOf 2 = .ok (.iconst 0, 1) := by decide +kernel
theorem dX10_rowsOf_3 : decode cX10_rowsOf 3 = .ok (.istore 4, 2) := by decide +kernel
theorem dX10_rowsOf_5 : decode cX10_rowsOf 5 = .ok (.iload 4, 2) := by decide +kernel
theorem dX10_rowsOf_7 : decode cX10_rowsOf 7 = .ok (.aload_n 0, 1) := by decide +kernel
theorem dX10_rowsOf_8 : decode cX10_rowsOf 8 = .ok (.getfield 7, 3) := by decide +kernel
theorem dX10_rowsOf_11 : decode cX10_rowsOf 11 = .ok (.bipush 8, 2) := by decide +kernel
theorem dX10_rowsOf_13 : decode cX10_rowsOf 13 = .ok (.iaload, 1) := by decide +kernel
theorem dX10_rowsOf_14 : decode cX10_rowsOf 14 = .ok (.if_icmp .ge 44, 3) := by decide +kernel
theorem dX10_rowsOf_17 : decode cX10_rowsOf 17 = .ok (.iload_n 3, 1) := by decide +kernel
theorem dX10_rowsOf_18 : decode cX10_rowsOf 18 = .ok (.aload_n 0, 1) := by decide +kernel
theorem dX10_rowsOf_19 : decode cX10_rowsOf 19 = .ok (.iload 4, 2) := by decide +kernel
theorem dX10_rowsOf_21 : decode cX10_rowsOf 21 = .ok (.iconst 2, 1) := by decide +kernel
theorem dX10_rowsOf_22 : decode cX10_rowsOf 22 = .ok (.invokevirtual 345, 3) := by decide +kernel
theorem dX10_rowsOf_25 : decode cX10_rowsOf 25 = .ok (.iload_n 1, 1) := by decide +kernel
theorem dX10_rowsOf_26 : decode cX10_rowsOf 26 = .ok (.if_icmp .ne 23, 3) := by decide +kernel
theorem dX10_rowsOf_29 : decode cX10_rowsOf 29 = .ok (.iload_n 2, 1) := by decide +kernel
theorem dX10_rowsOf_30 : decode cX10_rowsOf 30 = .ok (.iconst (-1), 1) := by decide +kernel
theorem dX10_rowsOf_31 : decode cX10_rowsOf 31 = .ok (.if_icmp .eq 14, 3) := by decide +kernel
theorem dX10_rowsOf_34 : decode cX10_rowsOf 34 = .ok (.aload_n 0, 1) := by decide +kernel
theorem dX10_rowsOf_35 : decode cX10_rowsOf 35 = .ok (.iload 4, 2) := by decide +kernel
theorem dX10_rowsOf_37 : decode cX10_rowsOf 37 = .ok (.iconst 1, 1) := by decide +kernel
theorem dX10_rowsOf_38 : decode cX10_rowsOf 38 = .ok (.invokevirtual 345, 3) := by decide +kernel
theorem dX10_rowsOf_41 : decode cX10_rowsOf 41 = .ok (.iload_n 2, 1) := by decide +kernel
theorem dX10_rowsOf_42 : decode cX10_rowsOf 42 = .ok (.if_icmp .ne 7, 3) := by decide +kernel
theorem dX10_rowsOf_45 : decode cX10_rowsOf 45 = .ok (.iconst 1, 1) := by decide +kernel
theorem dX10_rowsOf_46 : decode cX10_rowsOf 46 = .ok (.goto 4, 3) := by decide +kernel
theorem dX10_rowsOf_49 : decode cX10_rowsOf 49 = .ok (.iconst 0, 1) := by decide +kernel
theorem dX10_rowsOf_50 : decode cX10_rowsOf 50 = .ok (.iadd, 1) := by decide +kernel
theorem dX10_rowsOf_51 : decode cX10_rowsOf 51 = .ok (.istore_n 3, 1) := by decide +kernel
theorem dX10_rowsOf_52 : decode cX10_rowsOf 52 = .ok (.iinc 4 1, 3) := by decide +kernel
theorem dX10_rowsOf_55 : decode cX10_rowsOf 55 = .ok (.goto (-50), 3) := by decide +kernel
theorem dX10_rowsOf_58 : decode cX10_rowsOf 58 = .ok (.iload_n 3, 1) := by decide +kernel
theorem dX10_rowsOf_59 : decode cX10_rowsOf 59 = .ok (.ireturn, 1) := by decide +kernel
theorem dX10_led_0 : decode cX10_led 0 = .ok (.aload_n 0, 1) := by decide +kernel
theorem dX10_led_1 : decode cX10_led 1 = .ok (.aload_n 0, 1) := by decide +kernel
theorem dX10_led_2 : decode cX10_led 2 = .ok (.iload_n 1, 1) := by decide +kernel
theorem dX10_led_3 : decode cX10_led 3 = .ok (.invokevirtual 285, 3) := by decide +kernel
theorem dX10_led_6 : decode cX10_led 6 = .ok (.ifCond .ne 7, 3) := by decide +kernel
theorem dX10_led_9 : decode cX10_led 9 = .ok (.iconst 1, 1) := by decide +kernel
theorem dX10_led_10 : decode cX10_led 10 = .ok (.goto 4, 3) := by decide +kernel
theorem dX10_led_13 : decode cX10_led 13 = .ok (.iconst 0, 1) := by decide +kernel
theorem dX10_led_14 : decode cX10_led 14 = .ok (.putfield 63, 3) := by decide +kernel
theorem dX10_led_17 : decode cX10_led 17 = .ok (.aload_n 0, 1) := by decide +kernel
theorem dX10_led_18 : decode cX10_led 18 = .ok (.getfield 63, 3) := by decide +kernel
theorem dX10_led_21 : decode cX10_led 21 = .ok (.ifCond .le 5, 3) := by decide +kernel
theorem dX10_led_24 : decode cX10_led 24 = .ok (.iconst 0, 1) := by decide +kernel
theorem dX10_led_25 : decode cX10_led 25 = .ok (.ireturn, 1) := by decide +kernel
theorem dX10_led_26 : decode cX10_led 26 = .ok (.iload_n 2, 1) := by decide +kernel
theorem dX10_led_27 : decode cX10_led 27 = .ok (.ifCond .ne 10, 3) := by decide +kernel
theorem dX10_led_30 : decode cX10_led 30 = .ok (.aload_n 0, 1) := by decide +kernel
theorem dX10_led_31 : decode cX10_led 31 = .ok (.iload_n 1, 1) := by decide +kernel
theorem dX10_led_32 : decode cX10_led 32 = .ok (.iconst (-1), 1) := by decide +kernel
theorem dX10_led_33 : decode cX10_led 33 = .ok (.invokevirtual 348, 3) := by decide +kernel
theorem dX10_led_36 : decode cX10_led 36 = .ok (.ireturn, 1) := by decide +kernel
theorem dX10_led_37 : decode cX10_led 37 = .ok (.iconst (-1), 1) := by decide +kernel
theorem dX10_led_38 : decode cX10_led 38 = .ok (.istore_n 3, 1) := by decide +kernel
theorem dX10_led_39 : decode cX10_led 39 = .ok (.iconst 0, 1) := by decide +kernel
theorem dX10_led_40 : decode cX10_led 40 = .ok (.istore 4, 2) := by decide +kernel
theorem dX10_led_42 : decode cX10_led 42 = .ok (.iload 4, 2) := by decide +kernel
theorem dX10_led_44 : decode cX10_led 44 = .ok (.aload_n 0, 1) := by decide +kernel
theorem dX10_led_45 : decode cX10_led 45 = .ok (.getfield 7, 3) := by decide +kernel
theorem dX10_led_48 : decode cX10_led 48 = .ok (.iconst 4, 1) := by decide +kernel
theorem dX10_led_49 : decode cX10_led 49 = .ok (.iaload, 1) := by decide +kernel
theorem dX10_led_50 : decode cX10_led 50 = .ok (.if_icmp .ge 37, 3) := by decide +kernel
theorem dX10_led_53 : decode cX10_led 53 = .ok (.aload_n 0, 1) := by decide +kernel
theorem dX10_led_54 : decode cX10_led 54 = .ok (.iload_n 1, 1) := by decide +kernel
theorem dX10_led_55 : decode cX10_led 55 = .ok (.iload 4, 2) := by decide +kernel
theorem dX10_led_57 : decode cX10_led 57 = .ok (.invokevirtual 348, 3) := by decide +kernel
theorem dX10_led_60 : decode cX10_led 60 = .ok (.iload_n 3, 1) := by decide +kernel
theorem dX10_led_61 : decode cX10_led 61 = .ok (.iconst (-1), 1) := by decide +kernel
theorem dX10_led_62 : decode cX10_led 62 = .ok (.if_icmp .ne 7, 3) := by decide +kernel
theorem dX10_led_65 : decode cX10_led 65 = .ok (.iconst 0, 1) := by decide +kernel
theorem dX10_led_66 : decode cX10_led 66 = .ok (.goto 9, 3) := by decide +kernel
theorem dX10_led_69 : decode cX10_led 69 = .ok (.aload_n 0, 1) := by decide +kernel
theorem dX10_led_70 : decode cX10_led 70 = .ok (.iload_n 1, 1) := by decide +kernel
theorem dX10_led_71 : decode cX10_led 71 = .ok (.iload_n 3, 1) := by decide +kernel
theorem dX10_led_72 : decode cX10_led 72 = .ok (.invokevirtual 348, 3) := by decide +kernel
theorem dX10_led_75 : decode cX10_led 75 = .ok (.if_icmp .le 6, 3) := by decide +kernel
theorem dX10_led_78 : decode cX10_led 78 = .ok (.iload 4, 2) := by decide +kernel
theorem dX10_led_80 : decode cX10_led 80 = .ok (.istore_n 3, 1) := by decide +kernel
theorem dX10_led_81 : decode cX10_led 81 = .ok (.iinc 4 1, 3) := by decide +kernel
theorem dX10_led_84 : decode cX10_led 84 = .ok (.goto (-42), 3) := by decide +kernel
theorem dX10_led_87 : decode cX10_led 87 = .ok (.iload_n 3, 1) := by decide +kernel
theorem dX10_led_88 : decode cX10_led 88 = .ok (.ireturn, 1) := by decide +kernel
theorem dX10_log_0 : decode cX10_log 0 = .ok (.aload_n 0, 1) := by decide +kernel
theorem dX10_log_1 : decode cX10_log 1 = .ok (.iload_n 2, 1) := by decide +kernel
theorem dX10_log_2 : decode cX10_log 2 = .ok (.iconst 0, 1) := by decide +kernel
theorem dX10_log_3 : decode cX10_log 3 = .ok (.iconst 4, 1) := by decide +kernel
theorem dX10_log_4 : decode cX10_log 4 = .ok (.invokestatic 66, 3) := by decide +kernel
theorem dX10_log_7 : decode cX10_log 7 = .ok (.ifCond .ne 7, 3) := by decide +kernel
theorem dX10_log_10 : decode cX10_log 10 = .ok (.iconst 1, 1) := by decide +kernel
theorem dX10_log_11 : decode cX10_log 11 = .ok (.goto 4, 3) := by decide +kernel
theorem dX10_log_14 : decode cX10_log 14 = .ok (.iconst 0, 1) := by decide +kernel
theorem dX10_log_15 : decode cX10_log 15 = .ok (.putfield 63, 3) := by decide +kernel
theorem dX10_log_18 : decode cX10_log 18 = .ok (.aload_n 0, 1) := by decide +kernel
theorem dX10_log_19 : decode cX10_log 19 = .ok (.getfield 63, 3) := by decide +kernel
theorem dX10_log_22 : decode cX10_log 22 = .ok (.ifCond .le 5, 3) := by decide +kernel
theorem dX10_log_25 : decode cX10_log 25 = .ok (.iconst 0, 1) := by decide +kernel
theorem dX10_log_26 : decode cX10_log 26 = .ok (.ireturn, 1) := by decide +kernel
theorem dX10_log_27 : decode cX10_log 27 = .ok (.iload_n 1, 1) := by decide +kernel
theorem dX10_log_28 : decode cX10_log 28 = .ok (.iconst 0, 1) := by decide +kernel
theorem dX10_log_29 : decode cX10_log 29 = .ok (.aload_n 0, 1) := by decide +kernel
theorem dX10_log_30 : decode cX10_log 30 = .ok (.getfield 7, 3) := by decide +kernel
theorem dX10_log_33 : decode cX10_log 33 = .ok (.bipush 8, 2) := by decide +kernel
theorem dX10_log_35 : decode cX10_log 35 = .ok (.iaload, 1) := by decide +kernel
theorem dX10_log_36 : decode cX10_log 36 = .ok (.iconst 1, 1) := by decide +kernel
theorem dX10_log_37 : decode cX10_log 37 = .ok (.isub, 1) := by decide +kernel
theorem dX10_log_38 : decode cX10_log 38 = .ok (.invokestatic 66, 3) := by decide +kernel
theorem dX10_log_41 : decode cX10_log 41 = .ok (.ifCond .eq 12, 3) := by decide +kernel
theorem dX10_log_44 : decode cX10_log 44 = .ok (.aload_n 0, 1) := by decide +kernel
theorem dX10_log_45 : decode cX10_log 45 = .ok (.iload_n 1, 1) := by decide +kernel
theorem dX10_log_46 : decode cX10_log 46 = .ok (.iload_n 2, 1) := by decide +kernel
theorem dX10_log_47 : decode cX10_log 47 = .ok (.invokevirtual 345, 3) := by decide +kernel
theorem dX10_log_50 : decode cX10_log 50 = .ok (.goto 4, 3) := by decide +kernel
theorem dX10_log_53 : decode cX10_log 53 = .ok (.iconst (-1), 1) := by decide +kernel
theorem dX10_log_54 : decode cX10_log 54 = .ok (.ireturn, 1) := by decide +kernel
theorem dX10_seed_0 : decode cX10_seed 0 = .ok (.aload_n 0, 1) := by decide +kernel
theorem dX10_seed_1 : decode cX10_seed 1 = .ok (.iconst 0, 1) := by decide +kernel
theorem dX10_seed_2 : decode cX10_seed 2 = .ok (.putfield 63, 3) := by decide +kernel
theorem dX10_seed_5 : decode cX10_seed 5 = .ok (.aload_n 0, 1) := by decide +kernel
theorem dX10_seed_6 : decode cX10_seed 6 = .ok (.getfield 7, 3) := by decide +kernel
theorem dX10_seed_9 : decode cX10_seed 9 = .ok (.bipush 9, 2) := by decide +kernel
theorem dX10_seed_11 : decode cX10_seed 11 = .ok (.iaload, 1) := by decide +kernel
theorem dX10_seed_12 : decode cX10_seed 12 = .ok (.istore_n 2, 1) := by decide +kernel
theorem dX10_seed_13 : decode cX10_seed 13 = .ok (.aload_n 0, 1) := by decide +kernel
theorem dX10_seed_14 : decode cX10_seed 14 = .ok (.getfield 7, 3) := by decide +kernel
theorem dX10_seed_17 : decode cX10_seed 17 = .ok (.bipush 9, 2) := by decide +kernel
theorem dX10_seed_19 : decode cX10_seed 19 = .ok (.iload_n 1, 1) := by decide +kernel
theorem dX10_seed_20 : decode cX10_seed 20 = .ok (.iastore, 1) := by decide +kernel
theorem dX10_seed_21 : decode cX10_seed 21 = .ok (.iload_n 2, 1) := by decide +kernel
theorem dX10_seed_22 : decode cX10_seed 22 = .ok (.ireturn, 1) := by decide +kernel
theorem dX10_undo_0 : decode cX10_undo 0 = .ok (.aload_n 0, 1) := by decide +kernel
theorem dX10_undo_1 : decode cX10_undo 1 = .ok (.iconst 0, 1) := by decide +kernel
theorem dX10_undo_2 : decode cX10_undo 2 = .ok (.putfield 63, 3) := by decide +kernel
theorem dX10_undo_5 : decode cX10_undo 5 = .ok (.aload_n 0, 1) := by decide +kernel
theorem dX10_undo_6 : decode cX10_undo 6 = .ok (.getfield 184, 3) := by decide +kernel
theorem dX10_undo_9 : decode cX10_undo 9 = .ok (.ifCond .ne 5, 3) := by decide +kernel
theorem dX10_undo_12 : decode cX10_undo 12 = .ok (.iconst 0, 1) := by decide +kernel
theorem dX10_undo_13 : decode cX10_undo 13 = .ok (.ireturn, 1) := by decide +kernel
theorem dX10_undo_14 : decode cX10_undo 14 = .ok (.aload_n 0, 1) := by decide +kernel
theorem dX10_undo_15 : decode cX10_undo 15 = .ok (.dup, 1) := by decide +kernel
theorem dX10_undo_16 : decode cX10_undo 16 = .ok (.getfield 184, 3) := by decide +kernel
theorem dX10_undo_19 : decode cX10_undo 19 = .ok (.iconst 1, 1) := by decide +kernel
