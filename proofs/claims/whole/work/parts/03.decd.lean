theorem dX10_undo_20 : decode cX10_undo 20 = .ok (.isub, 1) := by decide +kernel
theorem dX10_undo_21 : decode cX10_undo 21 = .ok (.putfield 184, 3) := by decide +kernel
theorem dX10_undo_24 : decode cX10_undo 24 = .ok (.iconst 0, 1) := by decide +kernel
theorem dX10_undo_25 : decode cX10_undo 25 = .ok (.istore_n 1, 1) := by decide +kernel
theorem dX10_undo_26 : decode cX10_undo 26 = .ok (.iload_n 1, 1) := by decide +kernel
theorem dX10_undo_27 : decode cX10_undo 27 = .ok (.sipush 407, 3) := by decide +kernel
theorem dX10_undo_30 : decode cX10_undo 30 = .ok (.if_icmp .ge 30, 3) := by decide +kernel
theorem dX10_undo_33 : decode cX10_undo 33 = .ok (.aload_n 0, 1) := by decide +kernel
theorem dX10_undo_34 : decode cX10_undo 34 = .ok (.getfield 7, 3) := by decide +kernel
theorem dX10_undo_37 : decode cX10_undo 37 = .ok (.iload_n 1, 1) := by decide +kernel
theorem dX10_undo_38 : decode cX10_undo 38 = .ok (.aload_n 0, 1) := by decide +kernel
theorem dX10_undo_39 : decode cX10_undo 39 = .ok (.getfield 19, 3) := by decide +kernel
theorem dX10_undo_42 : decode cX10_undo 42 = .ok (.sipush 407, 3) := by decide +kernel
theorem dX10_undo_45 : decode cX10_undo 45 = .ok (.aload_n 0, 1) := by decide +kernel
theorem dX10_undo_46 : decode cX10_undo 46 = .ok (.getfield 184, 3) := by decide +kernel
theorem dX10_undo_49 : decode cX10_undo 49 = .ok (.imul, 1) := by decide +kernel
theorem dX10_undo_50 : decode cX10_undo 50 = .ok (.iload_n 1, 1) := by decide +kernel
theorem dX10_undo_51 : decode cX10_undo 51 = .ok (.iadd, 1) := by decide +kernel
theorem dX10_undo_52 : decode cX10_undo 52 = .ok (.iaload, 1) := by decide +kernel
theorem dX10_undo_53 : decode cX10_undo 53 = .ok (.iastore, 1) := by decide +kernel
theorem dX10_undo_54 : decode cX10_undo 54 = .ok (.iinc 1 1, 3) := by decide +kernel
theorem dX10_undo_57 : decode cX10_undo 57 = .ok (.goto (-31), 3) := by decide +kernel
theorem dX10_undo_60 : decode cX10_undo 60 = .ok (.iconst 1, 1) := by decide +kernel
theorem dX10_undo_61 : decode cX10_undo 61 = .ok (.ireturn, 1) := by decide +kernel
theorem dX10_image_0 : decode cX10_image 0 = .ok (.aload_n 0, 1) := by decide +kernel
theorem dX10_image_1 : decode cX10_image 1 = .ok (.iconst 0, 1) := by decide +kernel
theorem dX10_image_2 : decode cX10_image 2 = .ok (.putfield 63, 3) := by decide +kernel
theorem dX10_image_5 : decode cX10_image 5 = .ok (.iconst 0, 1) := by decide +kernel
theorem dX10_image_6 : decode cX10_image 6 = .ok (.istore_n 1, 1) := by decide +kernel
theorem dX10_image_7 : decode cX10_image 7 = .ok (.iload_n 1, 1) := by decide +kernel
theorem dX10_image_8 : decode cX10_image 8 = .ok (.sipush 807, 3) := by decide +kernel
theorem dX10_image_11 : decode cX10_image 11 = .ok (.if_icmp .ge 21, 3) := by decide +kernel
theorem dX10_image_14 : decode cX10_image 14 = .ok (.aload_n 0, 1) := by decide +kernel
theorem dX10_image_15 : decode cX10_image 15 = .ok (.getfield 13, 3) := by decide +kernel
theorem dX10_image_18 : decode cX10_image 18 = .ok (.iload_n 1, 1) := by decide +kernel
theorem dX10_image_19 : decode cX10_image 19 = .ok (.aload_n 0, 1) := by decide +kernel
theorem dX10_image_20 : decode cX10_image 20 = .ok (.getfield 7, 3) := by decide +kernel
theorem dX10_image_23 : decode cX10_image 23 = .ok (.iload_n 1, 1) := by decide +kernel
theorem dX10_image_24 : decode cX10_image 24 = .ok (.iaload, 1) := by decide +kernel
theorem dX10_image_25 : decode cX10_image 25 = .ok (.iastore, 1) := by decide +kernel
theorem dX10_image_26 : decode cX10_image 26 = .ok (.iinc 1 1, 3) := by decide +kernel
theorem dX10_image_29 : decode cX10_image 29 = .ok (.goto (-22), 3) := by decide +kernel
theorem dX10_image_32 : decode cX10_image 32 = .ok (.aload_n 0, 1) := by decide +kernel
theorem dX10_image_33 : decode cX10_image 33 = .ok (.iconst 1, 1) := by decide +kernel
theorem dX10_image_34 : decode cX10_image 34 = .ok (.putfield 351, 3) := by decide +kernel
theorem dX10_image_37 : decode cX10_image 37 = .ok (.return_, 1) := by decide +kernel
theorem dX10_back_0 : decode cX10_back 0 = .ok (.aload_n 0, 1) := by decide +kernel
theorem dX10_back_1 : decode cX10_back 1 = .ok (.iconst 0, 1) := by decide +kernel
theorem dX10_back_2 : decode cX10_back 2 = .ok (.putfield 63, 3) := by decide +kernel
theorem dX10_back_5 : decode cX10_back 5 = .ok (.aload_n 0, 1) := by decide +kernel
theorem dX10_back_6 : decode cX10_back 6 = .ok (.getfield 351, 3) := by decide +kernel
theorem dX10_back_9 : decode cX10_back 9 = .ok (.ifCond .ne 5, 3) := by decide +kernel
theorem dX10_back_12 : decode cX10_back 12 = .ok (.iconst 0, 1) := by decide +kernel
theorem dX10_back_13 : decode cX10_back 13 = .ok (.ireturn, 1) := by decide +kernel
theorem dX10_back_14 : decode cX10_back 14 = .ok (.iconst 0, 1) := by decide +kernel
theorem dX10_back_15 : decode cX10_back 15 = .ok (.istore_n 1, 1) := by decide +kernel
theorem dX10_back_16 : decode cX10_back 16 = .ok (.iload_n 1, 1) := by decide +kernel
theorem dX10_back_17 : decode cX10_back 17 = .ok (.sipush 807, 3) := by decide +kernel
theorem dX10_back_20 : decode cX10_back 20 = .ok (.if_icmp .ge 21, 3) := by decide +kernel
theorem dX10_back_23 : decode cX10_back 23 = .ok (.aload_n 0, 1) := by decide +kernel
theorem dX10_back_24 : decode cX10_back 24 = .ok (.getfield 7, 3) := by decide +kernel
theorem dX10_back_27 : decode cX10_back 27 = .ok (.iload_n 1, 1) := by decide +kernel
theorem dX10_back_28 : decode cX10_back 28 = .ok (.aload_n 0, 1) := by decide +kernel
theorem dX10_back_29 : decode cX10_back 29 = .ok (.getfield 13, 3) := by decide +kernel
theorem dX10_back_32 : decode cX10_back 32 = .ok (.iload_n 1, 1) := by decide +kernel
theorem dX10_back_33 : decode cX10_back 33 = .ok (.iaload, 1) := by decide +kernel
theorem dX10_back_34 : decode cX10_back 34 = .ok (.iastore, 1) := by decide +kernel
theorem dX10_back_35 : decode cX10_back 35 = .ok (.iinc 1 1, 3) := by decide +kernel
theorem dX10_back_38 : decode cX10_back 38 = .ok (.goto (-22), 3) := by decide +kernel
theorem dX10_back_41 : decode cX10_back 41 = .ok (.aload_n 0, 1) := by decide +kernel
theorem dX10_back_42 : decode cX10_back 42 = .ok (.iconst 0, 1) := by decide +kernel
theorem dX10_back_43 : decode cX10_back 43 = .ok (.putfield 184, 3) := by decide +kernel
theorem dX10_back_46 : decode cX10_back 46 = .ok (.iconst 1, 1) := by decide +kernel
theorem dX10_back_47 : decode cX10_back 47 = .ok (.ireturn, 1) := by decide +kernel
theorem dX10_together_0 : decode cX10_together 0 = .ok (.iconst 0, 1) := by decide +kernel
theorem dX10_together_1 : decode cX10_together 1 = .ok (.istore_n 2, 1) := by decide +kernel
theorem dX10_together_2 : decode cX10_together 2 = .ok (.iconst 0, 1) := by decide +kernel
theorem dX10_together_3 : decode cX10_together 3 = .ok (.istore_n 3, 1) := by decide +kernel
theorem dX10_together_4 : decode cX10_together 4 = .ok (.iload_n 3, 1) := by decide +kernel
theorem dX10_together_5 : decode cX10_together 5 = .ok (.aload_n 0, 1) := by decide +kernel
theorem dX10_together_6 : decode cX10_together 6 = .ok (.getfield 7, 3) := by decide +kernel
theorem dX10_together_9 : decode cX10_together 9 = .ok (.iconst 3, 1) := by decide +kernel
theorem dX10_together_10 : decode cX10_together 10 = .ok (.iaload, 1) := by decide +kernel
theorem dX10_together_11 : decode cX10_together 11 = .ok (.if_icmp .ge 18, 3) := by decide +kernel
theorem dX10_together_14 : decode cX10_together 14 = .ok (.iload_n 2, 1) := by decide +kernel
theorem dX10_together_15 : decode cX10_together 15 = .ok (.aload_n 0, 1) := by decide +kernel
theorem dX10_together_16 : decode cX10_together 16 = .ok (.iload_n 3, 1) := by decide +kernel
theorem dX10_together_17 : decode cX10_together 17 = .ok (.iload_n 1, 1) := by decide +kernel
theorem dX10_together_18 : decode cX10_together 18 = .ok (.invokevirtual 70, 3) := by decide +kernel
theorem dX10_together_21 : decode cX10_together 21 = .ok (.iadd, 1) := by decide +kernel
theorem dX10_together_22 : decode cX10_together 22 = .ok (.istore_n 2, 1) := by decide +kernel
theorem dX10_together_23 : decode cX10_together 23 = .ok (.iinc 3 1, 3) := by decide +kernel
theorem dX10_together_26 : decode cX10_together 26 = .ok (.goto (-22), 3) := by decide +kernel
theorem dX10_together_29 : decode cX10_together 29 = .ok (.iload_n 2, 1) := by decide +kernel
theorem dX10_together_30 : decode cX10_together 30 = .ok (.ireturn, 1) := by decide +kernel
theorem dX10_shown_0 : decode cX10_shown 0 = .ok (.iconst 0, 1) := by decide +kernel
theorem dX10_shown_1 : decode cX10_shown 1 = .ok (.istore_n 1, 1) := by decide +kernel
theorem dX10_shown_2 : decode cX10_shown 2 = .ok (.iconst 0, 1) := by decide +kernel
theorem dX10_shown_3 : decode cX10_shown 3 = .ok (.istore_n 2, 1) := by decide +kernel
theorem dX10_shown_4 : decode cX10_shown 4 = .ok (.iload_n 2, 1) := by decide +kernel
theorem dX10_shown_5 : decode cX10_shown 5 = .ok (.aload_n 0, 1) := by decide +kernel
theorem dX10_shown_6 : decode cX10_shown 6 = .ok (.getfield 7, 3) := by decide +kernel
theorem dX10_shown_9 : decode cX10_shown 9 = .ok (.iconst 3, 1) := by decide +kernel
theorem dX10_shown_10 : decode cX10_shown 10 = .ok (.iaload, 1) := by decide +kernel
theorem dX10_shown_11 : decode cX10_shown 11 = .ok (.if_icmp .ge 20, 3) := by decide +kernel
theorem dX10_shown_14 : decode cX10_shown 14 = .ok (.iload_n 1, 1) := by decide +kernel
theorem dX10_shown_15 : decode cX10_shown 15 = .ok (.aload_n 0, 1) := by decide +kernel
theorem dX10_shown_16 : decode cX10_shown 16 = .ok (.iload_n 2, 1) := by decide +kernel
theorem dX10_shown_17 : decode cX10_shown 17 = .ok (.iconst 3, 1) := by decide +kernel
theorem dX10_shown_18 : decode cX10_shown 18 = .ok (.invokevirtual 70, 3) := by decide +kernel
theorem dX10_shown_21 : decode cX10_shown 21 = .ok (.iload_n 2, 1) := by decide +kernel
theorem dX10_shown_22 : decode cX10_shown 22 = .ok (.ishl, 1) := by decide +kernel
theorem dX10_shown_23 : decode cX10_shown 23 = .ok (.ior, 1) := by decide +kernel
theorem dX10_shown_24 : decode cX10_shown 24 = .ok (.istore_n 1, 1) := by decide +kernel
theorem dX10_shown_25 : decode cX10_shown 25 = .ok (.iinc 2 1, 3) := by decide +kernel
theorem dX10_shown_28 : decode cX10_shown 28 = .ok (.goto (-24), 3) := by decide +kernel
theorem dX10_shown_31 : decode cX10_shown 31 = .ok (.iload_n 1, 1) := by decide +kernel
theorem dX10_shown_32 : decode cX10_shown 32 = .ok (.ireturn, 1) := by decide +kernel
theorem dX10_count_0 : decode cX10_count 0 = .ok (.aload_n 0, 1) := by decide +kernel
theorem dX10_count_1 : decode cX10_count 1 = .ok (.iconst 0, 1) := by decide +kernel
theorem dX10_count_2 : decode cX10_count 2 = .ok (.putfield 63, 3) := by decide +kernel
theorem dX10_count_5 : decode cX10_count 5 = .ok (.iload_n 1, 1) := by decide +kernel
theorem dX10_count_6 : decode cX10_count 6 = .ok (.ifCond .ne 10, 3) := by decide +kernel
theorem dX10_count_9 : decode cX10_count 9 = .ok (.aload_n 0, 1) := by decide +kernel
theorem dX10_count_10 : decode cX10_count 10 = .ok (.getfield 7, 3) := by decide +kernel
theorem dX10_count_13 : decode cX10_count 13 = .ok (.iconst 3, 1) := by decide +kernel
theorem dX10_count_14 : decode cX10_count 14 = .ok (.iaload, 1) := by decide +kernel
theorem dX10_count_15 : decode cX10_count 15 = .ok (.ireturn, 1) := by decide +kernel
theorem dX10_count_16 : decode cX10_count 16 = .ok (.iload_n 1, 1) := by decide +kernel
theorem dX10_count_17 : decode cX10_count 17 = .ok (.iconst 1, 1) := by decide +kernel
theorem dX10_count_18 : decode cX10_count 18 = .ok (.if_icmp .ne 10, 3) := by decide +kernel
theorem dX10_count_21 : decode cX10_count 21 = .ok (.aload_n 0, 1) := by decide +kernel
theorem dX10_count_22 : decode cX10_count 22 = .ok (.getfield 7, 3) := by decide +kernel
theorem dX10_count_25 : decode cX10_count 25 = .ok (.iconst 4, 1) := by decide +kernel
theorem dX10_count_26 : decode cX10_count 26 = .ok (.iaload, 1) := by decide +kernel
theorem dX10_count_27 : decode cX10_count 27 = .ok (.ireturn, 1) := by decide +kernel
theorem dX10_count_28 : decode cX10_count 28 = .ok (.iload_n 1, 1) := by decide +kernel
theorem dX10_count_29 : decode cX10_count 29 = .ok (.iconst 2, 1) := by decide +kernel
theorem dX10_count_30 : decode cX10_count 30 = .ok (.if_icmp .ne 10, 3) := by decide +kernel
theorem dX10_count_33 : decode cX10_count 33 = .ok (.aload_n 0, 1) := by decide +kernel
theorem dX10_count_34 : decode cX10_count 34 = .ok (.getfield 7, 3) := by decide +kernel
theorem dX10_count_37 : decode cX10_count 37 = .ok (.iconst 0, 1) := by decide +kernel
theorem dX10_count_38 : decode cX10_count 38 = .ok (.iaload, 1) := by decide +kernel
theorem dX10_count_39 : decode cX10_count 39 = .ok (.ireturn, 1) := by decide +kernel
theorem dX10_count_40 : decode cX10_count 40 = .ok (.iload_n 1, 1) := by decide +kernel
theorem dX10_count_41 : decode cX10_count 41 = .ok (.iconst 3, 1) := by decide +kernel
theorem dX10_count_42 : decode cX10_count 42 = .ok (.if_icmp .ne 10, 3) := by decide +kernel
theorem dX10_count_45 : decode cX10_count 45 = .ok (.aload_n 0, 1) := by decide +kernel
theorem dX10_count_46 : decode cX10_count 46 = .ok (.getfield 7, 3) := by decide +kernel
theorem dX10_count_49 : decode cX10_count 49 = .ok (.iconst 1, 1) := by decide +kernel
theorem dX10_count_50 : decode cX10_count 50 = .ok (.iaload, 1) := by decide +kernel
theorem dX10_count_51 : decode cX10_count 51 = .ok (.ireturn, 1) := by decide +kernel
theorem dX10_count_52 : decode cX10_count 52 = .ok (.iload_n 1, 1) := by decide +kernel
theorem dX10_count_53 : decode cX10_count 53 = .ok (.iconst 4, 1) := by decide +kernel
theorem dX10_count_54 : decode cX10_count 54 = .ok (.if_icmp .ne 11, 3) := by decide +kernel
theorem dX10_count_57 : decode cX10_count 57 = .ok (.aload_n 0, 1) := by decide +kernel
theorem dX10_count_58 : decode cX10_count 58 = .ok (.getfield 7, 3) := by decide +kernel
theorem dX10_count_61 : decode cX10_count 61 = .ok (.bipush 6, 2) := by decide +kernel
theorem dX10_count_63 : decode cX10_count 63 = .ok (.iaload, 1) := by decide +kernel
theorem dX10_count_64 : decode cX10_count 64 = .ok (.ireturn, 1) := by decide +kernel
theorem dX10_count_65 : decode cX10_count 65 = .ok (.iload_n 1, 1) := by decide +kernel
theorem dX10_count_66 : decode cX10_count 66 = .ok (.iconst 5, 1) := by decide +kernel
theorem dX10_count_67 : decode cX10_count 67 = .ok (.if_icmp .ne 10, 3) := by decide +kernel
theorem dX10_count_70 : decode cX10_count 70 = .ok (.aload_n 0, 1) := by decide +kernel
theorem dX10_count_71 : decode cX10_count 71 = .ok (.getfield 7, 3) := by decide +kernel
theorem dX10_count_74 : decode cX10_count 74 = .ok (.iconst 5, 1) := by decide +kernel
theorem dX10_count_75 : decode cX10_count 75 = .ok (.iaload, 1) := by decide +kernel
theorem dX10_count_76 : decode cX10_count 76 = .ok (.ireturn, 1) := by decide +kernel
theorem dX10_count_77 : decode cX10_count 77 = .ok (.iload_n 1, 1) := by decide +kernel
theorem dX10_count_78 : decode cX10_count 78 = .ok (.bipush 6, 2) := by decide +kernel
theorem dX10_count_80 : decode cX10_count 80 = .ok (.if_icmp .ne 8, 3) := by decide +kernel
theorem dX10_count_83 : decode cX10_count 83 = .ok (.aload_n 0, 1) := by decide +kernel
theorem dX10_count_84 : decode cX10_count 84 = .ok (.invokevirtual 355, 3) := by decide +kernel
theorem dX10_count_87 : decode cX10_count 87 = .ok (.ireturn, 1) := by decide +kernel
theorem dX10_count_88 : decode cX10_count 88 = .ok (.iload_n 1, 1) := by decide +kernel
theorem dX10_count_89 : decode cX10_count 89 = .ok (.bipush 7, 2) := by decide +kernel
theorem dX10_count_91 : decode cX10_count 91 = .ok (.if_icmp .ne 9, 3) := by decide +kernel
theorem dX10_count_94 : decode cX10_count 94 = .ok (.aload_n 0, 1) := by decide +kernel
theorem dX10_count_95 : decode cX10_count 95 = .ok (.iconst 4, 1) := by decide +kernel
theorem dX10_count_96 : decode cX10_count 96 = .ok (.invokevirtual 358, 3) := by decide +kernel
theorem dX10_count_99 : decode cX10_count 99 = .ok (.ireturn, 1) := by decide +kernel
theorem dX10_count_100 : decode cX10_count 100 = .ok (.iload_n 1, 1) := by decide +kernel
theorem dX10_count_101 : decode cX10_count 101 = .ok (.bipush 8, 2) := by decide +kernel
theorem dX10_count_103 : decode cX10_count 103 = .ok (.if_icmp .ne 9, 3) := by decide +kernel
theorem dX10_count_106 : decode cX10_count 106 = .ok (.aload_n 0, 1) := by decide +kernel
theorem dX10_count_107 : decode cX10_count 107 = .ok (.iconst 2, 1) := by decide +kernel
theorem dX10_count_108 : decode cX10_count 108 = .ok (.invokevirtual 358, 3) := by decide +kernel
theorem dX10_count_111 : decode cX10_count 111 = .ok (.ireturn, 1) := by decide +kernel
theorem dX10_count_112 : decode cX10_count 112 = .ok (.iload_n 1, 1) := by decide +kernel
theorem dX10_count_113 : decode cX10_count 113 = .ok (.bipush 9, 2) := by decide +kernel
theorem dX10_count_115 : decode cX10_count 115 = .ok (.if_icmp .ne 11, 3) := by decide +kernel
theorem dX10_count_118 : decode cX10_count 118 = .ok (.aload_n 0, 1) := by decide +kernel
theorem dX10_count_119 : decode cX10_count 119 = .ok (.getfield 7, 3) := by decide +kernel
theorem dX10_count_122 : decode cX10_count 122 = .ok (.bipush 7, 2) := by decide +kernel
theorem dX10_count_124 : decode cX10_count 124 = .ok (.iaload, 1) := by decide +kernel
theorem dX10_count_125 : decode cX10_count 125 = .ok (.ireturn, 1) := by decide +kernel
theorem dX10_count_126 : decode cX10_count 126 = .ok (.iload_n 1, 1) := by decide +kernel
theorem dX10_count_127 : decode cX10_count 127 = .ok (.bipush 10, 2) := by decide +kernel
theorem dX10_count_129 : decode cX10_count 129 = .ok (.if_icmp .ne 11, 3) := by decide +kernel
theorem dX10_count_132 : decode cX10_count 132 = .ok (.aload_n 0, 1) := by decide +kernel
theorem dX10_count_133 : decode cX10_count 133 = .ok (.getfield 7, 3) := by decide +kernel
theorem dX10_count_136 : decode cX10_count 136 = .ok (.bipush 8, 2) := by decide +kernel
theorem dX10_count_138 : decode cX10_count 138 = .ok (.iaload, 1) := by decide +kernel
theorem dX10_count_139 : decode cX10_count 139 = .ok (.ireturn, 1) := by decide +kernel
theorem dX10_count_140 : decode cX10_count 140 = .ok (.iload_n 1, 1) := by decide +kernel
theorem dX10_count_141 : decode cX10_count 141 = .ok (.bipush 11, 2) := by decide +kernel
theorem dX10_count_143 : decode cX10_count 143 = .ok (.if_icmp .ne 10, 3) := by decide +kernel
theorem dX10_count_146 : decode cX10_count 146 = .ok (.aload_n 0, 1) := by decide +kernel
theorem dX10_count_147 : decode cX10_count 147 = .ok (.getfield 184, 3) := by decide +kernel
theorem dX10_count_150 : decode cX10_count 150 = .ok (.goto 4, 3) := by decide +kernel
theorem dX10_count_153 : decode cX10_count 153 = .ok (.iconst (-1), 1) := by decide +kernel
theorem dX10_count_154 : decode cX10_count 154 = .ok (.ireturn, 1) := by decide +kernel
theorem dJ6_numberOfTrailingZeros_0f7a4_0 : decode cJ6_numberOfTrailingZeros_0f7a4 0 = .ok (.iload_n 0, 1) := by decide +kernel
theorem dJ6_numberOfTrailingZeros_0f7a4_1 : decode cJ6_numberOfTrailingZeros_0f7a4 1 = .ok (.iconst (-1), 1) := by decide +kernel
theorem dJ6_numberOfTrailingZeros_0f7a4_2 : decode cJ6_numberOfTrailingZeros_0f7a4 2 = .ok (.ixor, 1) := by decide +kernel
theorem dJ6_numberOfTrailingZeros_0f7a4_3 : decode cJ6_numberOfTrailingZeros_0f7a4 3 = .ok (.iload_n 0, 1) := by decide +kernel
theorem dJ6_numberOfTrailingZeros_0f7a4_4 : decode cJ6_numberOfTrailingZeros_0f7a4 4 = .ok (.iconst 1, 1) := by decide +kernel
theorem dJ6_numberOfTrailingZeros_0f7a4_5 : decode cJ6_numberOfTrailingZeros_0f7a4 5 = .ok (.isub, 1) := by decide +kernel
theorem dJ6_numberOfTrailingZeros_0f7a4_6 : decode cJ6_numberOfTrailingZeros_0f7a4 6 = .ok (.iand, 1) := by decide +kernel
theorem dJ6_numberOfTrailingZeros_0f7a4_7 : decode cJ6_numberOfTrailingZeros_0f7a4 7 = .ok (.istore_n 0, 1) := by decide +kernel
theorem dJ6_numberOfTrailingZeros_0f7a4_8 : decode cJ6_numberOfTrailingZeros_0f7a4 8 = .ok (.iload_n 0, 1) := by decide +kernel
theorem dJ6_numberOfTrailingZeros_0f7a4_9 : decode cJ6_numberOfTrailingZeros_0f7a4 9 = .ok (.ifCond .gt 8, 3) := by decide +kernel
theorem dJ6_numberOfTrailingZeros_0f7a4_12 : decode cJ6_numberOfTrailingZeros_0f7a4 12 = .ok (.iload_n 0, 1) := by decide +kernel
theorem dJ6_numberOfTrailingZeros_0f7a4_13 : decode cJ6_numberOfTrailingZeros_0f7a4 13 = .ok (.bipush 32, 2) := by decide +kernel
theorem dJ6_numberOfTrailingZeros_0f7a4_15 : decode cJ6_numberOfTrailingZeros_0f7a4 15 = .ok (.iand, 1) := by decide +kernel
theorem dJ6_numberOfTrailingZeros_0f7a4_16 : decode cJ6_numberOfTrailingZeros_0f7a4 16 = .ok (.ireturn, 1) := by decide +kernel
theorem dJ6_numberOfTrailingZeros_0f7a4_17 : decode cJ6_numberOfTrailingZeros_0f7a4 17 = .ok (.iconst 1, 1) := by decide +kernel
theorem dJ6_numberOfTrailingZeros_0f7a4_18 : decode cJ6_numberOfTrailingZeros_0f7a4 18 = .ok (.istore_n 1, 1) := by decide +kernel
theorem dJ6_numberOfTrailingZeros_0f7a4_19 : decode cJ6_numberOfTrailingZeros_0f7a4 19 = .ok (.iload_n 0, 1) := by decide +kernel
theorem dJ6_numberOfTrailingZeros_0f7a4_20 : decode cJ6_numberOfTrailingZeros_0f7a4 20 = .ok (.ldc_w 264, 3) := by decide +kernel
theorem dJ6_numberOfTrailingZeros_0f7a4_23 : decode cJ6_numberOfTrailingZeros_0f7a4 23 = .ok (.if_icmp .le 11, 3) := by decide +kernel
theorem dJ6_numberOfTrailingZeros_0f7a4_26 : decode cJ6_numberOfTrailingZeros_0f7a4 26 = .ok (.iinc 1 16, 3) := by decide +kernel
theorem dJ6_numberOfTrailingZeros_0f7a4_29 : decode cJ6_numberOfTrailingZeros_0f7a4 29 = .ok (.iload_n 0, 1) := by decide +kernel
theorem dJ6_numberOfTrailingZeros_0f7a4_30 : decode cJ6_numberOfTrailingZeros_0f7a4 30 = .ok (.bipush 16, 2) := by decide +kernel
theorem dJ6_numberOfTrailingZeros_0f7a4_32 : decode cJ6_numberOfTrailingZeros_0f7a4 32 = .ok (.iushr, 1) := by decide +kernel
theorem dJ6_numberOfTrailingZeros_0f7a4_33 : decode cJ6_numberOfTrailingZeros_0f7a4 33 = .ok (.istore_n 0, 1) := by decide +kernel
theorem dJ6_numberOfTrailingZeros_0f7a4_34 : decode cJ6_numberOfTrailingZeros_0f7a4 34 = .ok (.iload_n 0, 1) := by decide +kernel
theorem dJ6_numberOfTrailingZeros_0f7a4_35 : decode cJ6_numberOfTrailingZeros_0f7a4 35 = .ok (.sipush 256, 3) := by decide +kernel
theorem dJ6_numberOfTrailingZeros_0f7a4_38 : decode cJ6_numberOfTrailingZeros_0f7a4 38 = .ok (.if_icmp .le 11, 3) := by decide +kernel
theorem dJ6_numberOfTrailingZeros_0f7a4_41 : decode cJ6_numberOfTrailingZeros_0f7a4 41 = .ok (.iinc 1 8, 3) := by decide +kernel
theorem dJ6_numberOfTrailingZeros_0f7a4_44 : decode cJ6_numberOfTrailingZeros_0f7a4 44 = .ok (.iload_n 0, 1) := by decide +kernel
theorem dJ6_numberOfTrailingZeros_0f7a4_45 : decode cJ6_numberOfTrailingZeros_0f7a4 45 = .ok (.bipush 8, 2) := by decide +kernel
theorem dJ6_numberOfTrailingZeros_0f7a4_47 : decode cJ6_numberOfTrailingZeros_0f7a4 47 = .ok (.iushr, 1) := by decide +kernel
theorem dJ6_numberOfTrailingZeros_0f7a4_48 : decode cJ6_numberOfTrailingZeros_0f7a4 48 = .ok (.istore_n 0, 1) := by decide +kernel
theorem dJ6_numberOfTrailingZeros_0f7a4_49 : decode cJ6_numberOfTrailingZeros_0f7a4 49 = .ok (.iload_n 0, 1) := by decide +kernel
theorem dJ6_numberOfTrailingZeros_0f7a4_50 : decode cJ6_numberOfTrailingZeros_0f7a4 50 = .ok (.bipush 16, 2) := by decide +kernel
theorem dJ6_numberOfTrailingZeros_0f7a4_52 : decode cJ6_numberOfTrailingZeros_0f7a4 52 = .ok (.if_icmp .le 10, 3) := by decide +kernel
theorem dJ6_numberOfTrailingZeros_0f7a4_55 : decode cJ6_numberOfTrailingZeros_0f7a4 55 = .ok (.iinc 1 4, 3) := by decide +kernel
theorem dJ6_numberOfTrailingZeros_0f7a4_58 : decode cJ6_numberOfTrailingZeros_0f7a4 58 = .ok (.iload_n 0, 1) := by decide +kernel
theorem dJ6_numberOfTrailingZeros_0f7a4_59 : decode cJ6_numberOfTrailingZeros_0f7a4 59 = .ok (.iconst 4, 1) := by decide +kernel
theorem dJ6_numberOfTrailingZeros_0f7a4_60 : decode cJ6_numberOfTrailingZeros_0f7a4 60 = .ok (.iushr, 1) := by decide +kernel
theorem dJ6_numberOfTrailingZeros_0f7a4_61 : decode cJ6_numberOfTrailingZeros_0f7a4 61 = .ok (.istore_n 0, 1) := by decide +kernel
theorem dJ6_numberOfTrailingZeros_0f7a4_62 : decode cJ6_numberOfTrailingZeros_0f7a4 62 = .ok (.iload_n 0, 1) := by decide +kernel
theorem dJ6_numberOfTrailingZeros_0f7a4_63 : decode cJ6_numberOfTrailingZeros_0f7a4 63 = .ok (.iconst 4, 1) := by decide +kernel
theorem dJ6_numberOfTrailingZeros_0f7a4_64 : decode cJ6_numberOfTrailingZeros_0f7a4 64 = .ok (.if_icmp .le 10, 3) := by decide +kernel
theorem dJ6_numberOfTrailingZeros_0f7a4_67 : decode cJ6_numberOfTrailingZeros_0f7a4 67 = .ok (.iinc 1 2, 3) := by decide +kernel
theorem dJ6_numberOfTrailingZeros_0f7a4_70 : decode cJ6_numberOfTrailingZeros_0f7a4 70 = .ok (.iload_n 0, 1) := by decide +kernel
theorem dJ6_numberOfTrailingZeros_0f7a4_71 : decode cJ6_numberOfTrailingZeros_0f7a4 71 = .ok (.iconst 2, 1) := by decide +kernel
theorem dJ6_numberOfTrailingZeros_0f7a4_72 : decode cJ6_numberOfTrailingZeros_0f7a4 72 = .ok (.iushr, 1) := by decide +kernel
theorem dJ6_numberOfTrailingZeros_0f7a4_73 : decode cJ6_numberOfTrailingZeros_0f7a4 73 = .ok (.istore_n 0, 1) := by decide +kernel
theorem dJ6_numberOfTrailingZeros_0f7a4_74 : decode cJ6_numberOfTrailingZeros_0f7a4 74 = .ok (.iload_n 1, 1) := by decide +kernel
theorem dJ6_numberOfTrailingZeros_0f7a4_75 : decode cJ6_numberOfTrailingZeros_0f7a4 75 = .ok (.iload_n 0, 1) := by decide +kernel
theorem dJ6_numberOfTrailingZeros_0f7a4_76 : decode cJ6_numberOfTrailingZeros_0f7a4 76 = .ok (.iconst 1, 1) := by decide +kernel
theorem dJ6_numberOfTrailingZeros_0f7a4_77 : decode cJ6_numberOfTrailingZeros_0f7a4 77 = .ok (.iushr, 1) := by decide +kernel
theorem dJ6_numberOfTrailingZeros_0f7a4_78 : decode cJ6_numberOfTrailingZeros_0f7a4 78 = .ok (.iadd, 1) := by decide +kernel
theorem dJ6_numberOfTrailingZeros_0f7a4_79 : decode cJ6_numberOfTrailingZeros_0f7a4 79 = .ok (.ireturn, 1) := by decide +kernel
theorem dJ6_bitCount_0f7a4_0 : decode cJ6_bitCount_0f7a4 0 = .ok (.iload_n 0, 1) := by decide +kernel
theorem dJ6_bitCount_0f7a4_1 : decode cJ6_bitCount_0f7a4 1 = .ok (.iload_n 0, 1) := by decide +kernel
theorem dJ6_bitCount_0f7a4_2 : decode cJ6_bitCount_0f7a4 2 = .ok (.iconst 1, 1) := by decide +kernel
theorem dJ6_bitCount_0f7a4_3 : decode cJ6_bitCount_0f7a4 3 = .ok (.iushr, 1) := by decide +kernel
theorem dJ6_bitCount_0f7a4_4 : decode cJ6_bitCount_0f7a4 4 = .ok (.ldc_w 265, 3) := by decide +kernel
theorem dJ6_bitCount_0f7a4_7 : decode cJ6_bitCount_0f7a4 7 = .ok (.iand, 1) := by decide +kernel
theorem dJ6_bitCount_0f7a4_8 : decode cJ6_bitCount_0f7a4 8 = .ok (.isub, 1) := by decide +kernel
theorem dJ6_bitCount_0f7a4_9 : decode cJ6_bitCount_0f7a4 9 = .ok (.istore_n 0, 1) := by decide +kernel
theorem dJ6_bitCount_0f7a4_10 : decode cJ6_bitCount_0f7a4 10 = .ok (.iload_n 0, 1) := by decide +kernel
theorem dJ6_bitCount_0f7a4_11 : decode cJ6_bitCount_0f7a4 11 = .ok (.ldc_w 266, 3) := by decide +kernel
theorem dJ6_bitCount_0f7a4_14 : decode cJ6_bitCount_0f7a4 14 = .ok (.iand, 1) := by decide +kernel
theorem dJ6_bitCount_0f7a4_15 : decode cJ6_bitCount_0f7a4 15 = .ok (.iload_n 0, 1) := by decide +kernel
theorem dJ6_bitCount_0f7a4_16 : decode cJ6_bitCount_0f7a4 16 = .ok (.iconst 2, 1) := by decide +kernel
theorem dJ6_bitCount_0f7a4_17 : decode cJ6_bitCount_0f7a4 17 = .ok (.iushr, 1) := by decide +kernel
theorem dJ6_bitCount_0f7a4_18 : decode cJ6_bitCount_0f7a4 18 = .ok (.ldc_w 266, 3) := by decide +kernel
theorem dJ6_bitCount_0f7a4_21 : decode cJ6_bitCount_0f7a4 21 = .ok (.iand, 1) := by decide +kernel
theorem dJ6_bitCount_0f7a4_22 : decode cJ6_bitCount_0f7a4 22 = .ok (.iadd, 1) := by decide +kernel
theorem dJ6_bitCount_0f7a4_23 : decode cJ6_bitCount_0f7a4 23 = .ok (.istore_n 0, 1) := by decide +kernel
theorem dJ6_bitCount_0f7a4_24 : decode cJ6_bitCount_0f7a4 24 = .ok (.iload_n 0, 1) := by decide +kernel
theorem dJ6_bitCount_0f7a4_25 : decode cJ6_bitCount_0f7a4 25 = .ok (.iload_n 0, 1) := by decide +kernel
theorem dJ6_bitCount_0f7a4_26 : decode cJ6_bitCount_0f7a4 26 = .ok (.iconst 4, 1) := by decide +kernel
theorem dJ6_bitCount_0f7a4_27 : decode cJ6_bitCount_0f7a4 27 = .ok (.iushr, 1) := by decide +kernel
theorem dJ6_bitCount_0f7a4_28 : decode cJ6_bitCount_0f7a4 28 = .ok (.iadd, 1) := by decide +kernel
theorem dJ6_bitCount_0f7a4_29 : decode cJ6_bitCount_0f7a4 29 = .ok (.ldc_w 267, 3) := by decide +kernel
theorem dJ6_bitCount_0f7a4_32 : decode cJ6_bitCount_0f7a4 32 = .ok (.iand, 1) := by decide +kernel
theorem dJ6_bitCount_0f7a4_33 : decode cJ6_bitCount_0f7a4 33 = .ok (.istore_n 0, 1) := by decide +kernel
theorem dJ6_bitCount_0f7a4_34 : decode cJ6_bitCount_0f7a4 34 = .ok (.iload_n 0, 1) := by decide +kernel
theorem dJ6_bitCount_0f7a4_35 : decode cJ6_bitCount_0f7a4 35 = .ok (.iload_n 0, 1) := by decide +kernel
theorem dJ6_bitCount_0f7a4_36 : decode cJ6_bitCount_0f7a4 36 = .ok (.bipush 8, 2) := by decide +kernel
theorem dJ6_bitCount_0f7a4_38 : decode cJ6_bitCount_0f7a4 38 = .ok (.iushr, 1) := by decide +kernel
theorem dJ6_bitCount_0f7a4_39 : decode cJ6_bitCount_0f7a4 39 = .ok (.iadd, 1) := by decide +kernel
theorem dJ6_bitCount_0f7a4_40 : decode cJ6_bitCount_0f7a4 40 = .ok (.istore_n 0, 1) := by decide +kernel
theorem dJ6_bitCount_0f7a4_41 : decode cJ6_bitCount_0f7a4 41 = .ok (.iload_n 0, 1) := by decide +kernel
theorem dJ6_bitCount_0f7a4_42 : decode cJ6_bitCount_0f7a4 42 = .ok (.iload_n 0, 1) := by decide +kernel
theorem dJ6_bitCount_0f7a4_43 : decode cJ6_bitCount_0f7a4 43 = .ok (.bipush 16, 2) := by decide +kernel
theorem dJ6_bitCount_0f7a4_45 : decode cJ6_bitCount_0f7a4 45 = .ok (.iushr, 1) := by decide +kernel
theorem dJ6_bitCount_0f7a4_46 : decode cJ6_bitCount_0f7a4 46 = .ok (.iadd, 1) := by decide +kernel
theorem dJ6_bitCount_0f7a4_47 : decode cJ6_bitCount_0f7a4 47 = .ok (.istore_n 0, 1) := by decide +kernel
theorem dJ6_bitCount_0f7a4_48 : decode cJ6_bitCount_0f7a4 48 = .ok (.iload_n 0, 1) := by decide +kernel
theorem dJ6_bitCount_0f7a4_49 : decode cJ6_bitCount_0f7a4 49 = .ok (.bipush 63, 2) := by decide +kernel
theorem dJ6_bitCount_0f7a4_51 : decode cJ6_bitCount_0f7a4 51 = .ok (.iand, 1) := by decide +kernel
theorem dJ6_bitCount_0f7a4_52 : decode cJ6_bitCount_0f7a4 52 = .ok (.ireturn, 1) := by decide +kernel
theorem dJ13_bitCount_95d88_0 : decode cJ13_bitCount_95d88 0 = .ok (.lload_n 0, 1) := by decide +kernel
theorem dJ13_bitCount_95d88_1 : decode cJ13_bitCount_95d88 1 = .ok (.lload_n 0, 1) := by decide +kernel
theorem dJ13_bitCount_95d88_2 : decode cJ13_bitCount_95d88 2 = .ok (.iconst 1, 1) := by decide +kernel
theorem dJ13_bitCount_95d88_3 : decode cJ13_bitCount_95d88 3 = .ok (.lushr, 1) := by decide +kernel
theorem dJ13_bitCount_95d88_4 : decode cJ13_bitCount_95d88 4 = .ok (.ldc2_w 314, 3) := by decide +kernel
theorem dJ13_bitCount_95d88_7 : decode cJ13_bitCount_95d88 7 = .ok (.land, 1) := by decide +kernel
theorem dJ13_bitCount_95d88_8 : decode cJ13_bitCount_95d88 8 = .ok (.lsub, 1) := by decide +kernel
theorem dJ13_bitCount_95d88_9 : decode cJ13_bitCount_95d88 9 = .ok (.lstore_n 0, 1) := by decide +kernel
theorem dJ13_bitCount_95d88_10 : decode cJ13_bitCount_95d88 10 = .ok (.lload_n 0, 1) := by decide +kernel
theorem dJ13_bitCount_95d88_11 : decode cJ13_bitCount_95d88 11 = .ok (.ldc2_w 316, 3) := by decide +kernel
theorem dJ13_bitCount_95d88_14 : decode cJ13_bitCount_95d88 14 = .ok (.land, 1) := by decide +kernel
theorem dJ13_bitCount_95d88_15 : decode cJ13_bitCount_95d88 15 = .ok (.lload_n 0, 1) := by decide +kernel
theorem dJ13_bitCount_95d88_16 : decode cJ13_bitCount_95d88 16 = .ok (.iconst 2, 1) := by decide +kernel
theorem dJ13_bitCount_95d88_17 : decode cJ13_bitCount_95d88 17 = .ok (.lushr, 1) := by decide +kernel
theorem dJ13_bitCount_95d88_18 : decode cJ13_bitCount_95d88 18 = .ok (.ldc2_w 316, 3) := by decide +kernel
theorem dJ13_bitCount_95d88_21 : decode cJ13_bitCount_95d88 21 = .ok (.land, 1) := by decide +kernel
theorem dJ13_bitCount_95d88_22 : decode cJ13_bitCount_95d88 22 = .ok (.ladd, 1) := by decide +kernel
theorem dJ13_bitCount_95d88_23 : decode cJ13_bitCount_95d88 23 = .ok (.lstore_n 0, 1) := by decide +kernel
theorem dJ13_bitCount_95d88_24 : decode cJ13_bitCount_95d88 24 = .ok (.lload_n 0, 1) := by decide +kernel
theorem dJ13_bitCount_95d88_25 : decode cJ13_bitCount_95d88 25 = .ok (.lload_n 0, 1) := by decide +kernel
theorem dJ13_bitCount_95d88_26 : decode cJ13_bitCount_95d88 26 = .ok (.iconst 4, 1) := by decide +kernel
theorem dJ13_bitCount_95d88_27 : decode cJ13_bitCount_95d88 27 = .ok (.lushr, 1) := by decide +kernel
theorem dJ13_bitCount_95d88_28 : decode cJ13_bitCount_95d88 28 = .ok (.ladd, 1) := by decide +kernel
theorem dJ13_bitCount_95d88_29 : decode cJ13_bitCount_95d88 29 = .ok (.ldc2_w 318, 3) := by decide +kernel
theorem dJ13_bitCount_95d88_32 : decode cJ13_bitCount_95d88 32 = .ok (.land, 1) := by decide +kernel
theorem dJ13_bitCount_95d88_33 : decode cJ13_bitCount_95d88 33 = .ok (.lstore_n 0, 1) := by decide +kernel
theorem dJ13_bitCount_95d88_34 : decode cJ13_bitCount_95d88 34 = .ok (.lload_n 0, 1) := by decide +kernel
theorem dJ13_bitCount_95d88_35 : decode cJ13_bitCount_95d88 35 = .ok (.lload_n 0, 1) := by decide +kernel
theorem dJ13_bitCount_95d88_36 : decode cJ13_bitCount_95d88 36 = .ok (.bipush 8, 2) := by decide +kernel
theorem dJ13_bitCount_95d88_38 : decode cJ13_bitCount_95d88 38 = .ok (.lushr, 1) := by decide +kernel
theorem dJ13_bitCount_95d88_39 : decode cJ13_bitCount_95d88 39 = .ok (.ladd, 1) := by decide +kernel
theorem dJ13_bitCount_95d88_40 : decode cJ13_bitCount_95d88 40 = .ok (.lstore_n 0, 1) := by decide +kernel
theorem dJ13_bitCount_95d88_41 : decode cJ13_bitCount_95d88 41 = .ok (.lload_n 0, 1) := by decide +kernel
theorem dJ13_bitCount_95d88_42 : decode cJ13_bitCount_95d88 42 = .ok (.lload_n 0, 1) := by decide +kernel
theorem dJ13_bitCount_95d88_43 : decode cJ13_bitCount_95d88 43 = .ok (.bipush 16, 2) := by decide +kernel
theorem dJ13_bitCount_95d88_45 : decode cJ13_bitCount_95d88 45 = .ok (.lushr, 1) := by decide +kernel
theorem dJ13_bitCount_95d88_46 : decode cJ13_bitCount_95d88 46 = .ok (.ladd, 1) := by decide +kernel
theorem dJ13_bitCount_95d88_47 : decode cJ13_bitCount_95d88 47 = .ok (.lstore_n 0, 1) := by decide +kernel
theorem dJ13_bitCount_95d88_48 : decode cJ13_bitCount_95d88 48 = .ok (.lload_n 0, 1) := by decide +kernel
theorem dJ13_bitCount_95d88_49 : decode cJ13_bitCount_95d88 49 = .ok (.lload_n 0, 1) := by decide +kernel
theorem dJ13_bitCount_95d88_50 : decode cJ13_bitCount_95d88 50 = .ok (.bipush 32, 2) := by decide +kernel
theorem dJ13_bitCount_95d88_52 : decode cJ13_bitCount_95d88 52 = .ok (.lushr, 1) := by decide +kernel
theorem dJ13_bitCount_95d88_53 : decode cJ13_bitCount_95d88 53 = .ok (.ladd, 1) := by decide +kernel
theorem dJ13_bitCount_95d88_54 : decode cJ13_bitCount_95d88 54 = .ok (.lstore_n 0, 1) := by decide +kernel
theorem dJ13_bitCount_95d88_55 : decode cJ13_bitCount_95d88 55 = .ok (.lload_n 0, 1) := by decide +kernel
theorem dJ13_bitCount_95d88_56 : decode cJ13_bitCount_95d88 56 = .ok (.l2i, 1) := by decide +kernel
theorem dJ13_bitCount_95d88_57 : decode cJ13_bitCount_95d88 57 = .ok (.bipush 127, 2) := by decide +kernel
theorem dJ13_bitCount_95d88_59 : decode cJ13_bitCount_95d88 59 = .ok (.iand, 1) := by decide +kernel
theorem dJ13_bitCount_95d88_60 : decode cJ13_bitCount_95d88 60 = .ok (.ireturn, 1) := by decide +kernel
theorem dJ9_max_7cf53_0 : decode cJ9_max_7cf53 0 = .ok (.iload_n 0, 1) := by decide +kernel
theorem dJ9_max_7cf53_1 : decode cJ9_max_7cf53 1 = .ok (.iload_n 1, 1) := by decide +kernel
theorem dJ9_max_7cf53_2 : decode cJ9_max_7cf53 2 = .ok (.if_icmp .lt 7, 3) := by decide +kernel
theorem dJ9_max_7cf53_5 : decode cJ9_max_7cf53 5 = .ok (.iload_n 0, 1) := by decide +kernel
theorem dJ9_max_7cf53_6 : decode cJ9_max_7cf53 6 = .ok (.goto 4, 3) := by decide +kernel
theorem dJ9_max_7cf53_9 : decode cJ9_max_7cf53 9 = .ok (.iload_n 1, 1) := by decide +kernel
theorem dJ9_max_7cf53_10 : decode cJ9_max_7cf53 10 = .ok (.ireturn, 1) := by decide +kernel
theorem dJ9_min_7cf53_0 : decode cJ9_min_7cf53 0 = .ok (.iload_n 0, 1) := by decide +kernel
theorem dJ9_min_7cf53_1 : decode cJ9_min_7cf53 1 = .ok (.iload_n 1, 1) := by decide +kernel
theorem dJ9_min_7cf53_2 : decode cJ9_min_7cf53 2 = .ok (.if_icmp .gt 7, 3) := by decide +kernel
theorem dJ9_min_7cf53_5 : decode cJ9_min_7cf53 5 = .ok (.iload_n 0, 1) := by decide +kernel
theorem dJ9_min_7cf53_6 : decode cJ9_min_7cf53 6 = .ok (.goto 4, 3) := by decide +kernel
theorem dJ9_min_7cf53_9 : decode cJ9_min_7cf53 9 = .ok (.iload_n 1, 1) := by decide +kernel
theorem dJ9_min_7cf53_10 : decode cJ9_min_7cf53 10 = .ok (.ireturn, 1) := by decide +kernel
theorem dJ0_length_8abf5_0 : decode cJ0_length_8abf5 0 = .ok (.aload_n 0, 1) := by decide +kernel
theorem dJ0_length_8abf5_1 : decode cJ0_length_8abf5 1 = .ok (.getfield 9, 3) := by decide +kernel
theorem dJ0_length_8abf5_4 : decode cJ0_length_8abf5 4 = .ok (.arraylength, 1) := by decide +kernel
theorem dJ0_length_8abf5_5 : decode cJ0_length_8abf5 5 = .ok (.aload_n 0, 1) := by decide +kernel
theorem dJ0_length_8abf5_6 : decode cJ0_length_8abf5 6 = .ok (.invokevirtual 335, 3) := by decide +kernel
theorem dJ0_length_8abf5_9 : decode cJ0_length_8abf5 9 = .ok (.ishr, 1) := by decide +kernel
theorem dJ0_length_8abf5_10 : decode cJ0_length_8abf5 10 = .ok (.ireturn, 1) := by decide +kernel
theorem dJ0_charAt_5068e_0 : decode cJ0_charAt_5068e 0 = .ok (.aload_n 0, 1) := by decide +kernel
theorem dJ0_charAt_5068e_1 : decode cJ0_charAt_5068e 1 = .ok (.invokevirtual 492, 3) := by decide +kernel
theorem dJ0_charAt_5068e_4 : decode cJ0_charAt_5068e 4 = .ok (.ifCond .eq 12, 3) := by decide +kernel
theorem dJ0_charAt_5068e_7 : decode cJ0_charAt_5068e 7 = .ok (.aload_n 0, 1) := by decide +kernel
theorem dJ0_charAt_5068e_8 : decode cJ0_charAt_5068e 8 = .ok (.getfield 9, 3) := by decide +kernel
theorem dJ0_charAt_5068e_11 : decode cJ0_charAt_5068e 11 = .ok (.iload_n 1, 1) := by decide +kernel
theorem dJ0_charAt_5068e_12 : decode cJ0_charAt_5068e 12 = .ok (.invokestatic 495, 3) := by decide +kernel
theorem dJ0_charAt_5068e_15 : decode cJ0_charAt_5068e 15 = .ok (.ireturn, 1) := by decide +kernel
theorem dJ0_charAt_5068e_16 : decode cJ0_charAt_5068e 16 = .ok (.aload_n 0, 1) := by decide +kernel
theorem dJ0_charAt_5068e_17 : decode cJ0_charAt_5068e 17 = .ok (.getfield 9, 3) := by decide +kernel
theorem dJ0_charAt_5068e_20 : decode cJ0_charAt_5068e 20 = .ok (.iload_n 1, 1) := by decide +kernel
theorem dJ0_charAt_5068e_21 : decode cJ0_charAt_5068e 21 = .ok (.invokestatic 498, 3) := by decide +kernel
theorem dJ0_charAt_5068e_24 : decode cJ0_charAt_5068e 24 = .ok (.ireturn, 1) := by decide +kernel
theorem dJ0_coder_7d493_0 : decode cJ0_coder_7d493 0 = .ok (.getstatic 38, 3) := by decide +kernel
theorem dJ0_coder_7d493_3 : decode cJ0_coder_7d493 3 = .ok (.ifCond .eq 10, 3) := by decide +kernel
theorem dJ0_coder_7d493_6 : decode cJ0_coder_7d493 6 = .ok (.aload_n 0, 1) := by decide +kernel
theorem dJ0_coder_7d493_7 : decode cJ0_coder_7d493 7 = .ok (.getfield 15, 3) := by decide +kernel
theorem dJ0_coder_7d493_10 : decode cJ0_coder_7d493 10 = .ok (.goto 4, 3) := by decide +kernel
theorem dJ0_coder_7d493_13 : decode cJ0_coder_7d493 13 = .ok (.iconst 1, 1) := by decide +kernel
theorem dJ0_coder_7d493_14 : decode cJ0_coder_7d493 14 = .ok (.ireturn, 1) := by decide +kernel
theorem dJ0_isLatin1_aae02_0 : decode cJ0_isLatin1_aae02 0 = .ok (.getstatic 38, 3) := by decide +kernel
theorem dJ0_isLatin1_aae02_3 : decode cJ0_isLatin1_aae02 3 = .ok (.ifCond .eq 14, 3) := by decide +kernel
theorem dJ0_isLatin1_aae02_6 : decode cJ0_isLatin1_aae02 6 = .ok (.aload_n 0, 1) := by decide +kernel
theorem dJ0_isLatin1_aae02_7 : decode cJ0_isLatin1_aae02 7 = .ok (.getfield 15, 3) := by decide +kernel
theorem dJ0_isLatin1_aae02_10 : decode cJ0_isLatin1_aae02 10 = .ok (.ifCond .ne 7, 3) := by decide +kernel
theorem dJ0_isLatin1_aae02_13 : decode cJ0_isLatin1_aae02 13 = .ok (.iconst 1, 1) := by decide +kernel
theorem dJ0_isLatin1_aae02_14 : decode cJ0_isLatin1_aae02 14 = .ok (.goto 4, 3) := by decide +kernel
theorem dJ0_isLatin1_aae02_17 : decode cJ0_isLatin1_aae02 17 = .ok (.iconst 0, 1) := by decide +kernel
theorem dJ0_isLatin1_aae02_18 : decode cJ0_isLatin1_aae02 18 = .ok (.ireturn, 1) := by decide +kernel
theorem dJ0_checkIndex_df160_0 : decode cJ0_checkIndex_df160 0 = .ok (.iload_n 0, 1) := by decide +kernel
theorem dJ0_checkIndex_df160_1 : decode cJ0_checkIndex_df160 1 = .ok (.iload_n 1, 1) := by decide +kernel
theorem dJ0_checkIndex_df160_2 : decode cJ0_checkIndex_df160 2 = .ok (.getstatic 1053, 3) := by decide +kernel
theorem dJ0_checkIndex_df160_5 : decode cJ0_checkIndex_df160 5 = .ok (.invokestatic 1059, 3) := by decide +kernel
theorem dJ0_checkIndex_df160_8 : decode cJ0_checkIndex_df160 8 = .ok (.pop, 1) := by decide +kernel
theorem dJ0_checkIndex_df160_9 : decode cJ0_checkIndex_df160 9 = .ok (.return_, 1) := by decide +kernel
theorem dJ1_charAt_3b067_0 : decode cJ1_charAt_3b067 0 = .ok (.iload_n 1, 1) := by decide +kernel
theorem dJ1_charAt_3b067_1 : decode cJ1_charAt_3b067 1 = .ok (.aload_n 0, 1) := by decide +kernel
theorem dJ1_charAt_3b067_2 : decode cJ1_charAt_3b067 2 = .ok (.arraylength, 1) := by decide +kernel
theorem dJ1_charAt_3b067_3 : decode cJ1_charAt_3b067 3 = .ok (.invokestatic 9, 3) := by decide +kernel
theorem dJ1_charAt_3b067_6 : decode cJ1_charAt_3b067 6 = .ok (.aload_n 0, 1) := by decide +kernel
theorem dJ1_charAt_3b067_7 : decode cJ1_charAt_3b067 7 = .ok (.iload_n 1, 1) := by decide +kernel
theorem dJ1_charAt_3b067_8 : decode cJ1_charAt_3b067 8 = .ok (.baload, 1) := by decide +kernel
theorem dJ1_charAt_3b067_9 : decode cJ1_charAt_3b067 9 = .ok (.sipush 255, 3) := by decide +kernel
theorem dJ1_charAt_3b067_12 : decode cJ1_charAt_3b067 12 = .ok (.iand, 1) := by decide +kernel
theorem dJ1_charAt_3b067_13 : decode cJ1_charAt_3b067 13 = .ok (.i2c, 1) := by decide +kernel
theorem dJ1_charAt_3b067_14 : decode cJ1_charAt_3b067 14 = .ok (.ireturn, 1) := by decide +kernel
theorem dJ2_getChar_3b067_0 : decode cJ2_getChar_3b067 0 = .ok (.getstatic 44, 3) := by decide +kernel
theorem dJ2_getChar_3b067_3 : decode cJ2_getChar_3b067 3 = .ok (.ifCond .ne 25, 3) := by decide +kernel
theorem dJ2_getChar_3b067_6 : decode cJ2_getChar_3b067 6 = .ok (.iload_n 1, 1) := by decide +kernel
theorem dJ2_getChar_3b067_7 : decode cJ2_getChar_3b067 7 = .ok (.ifCond .lt 11, 3) := by decide +kernel
theorem dJ2_getChar_3b067_10 : decode cJ2_getChar_3b067 10 = .ok (.iload_n 1, 1) := by decide +kernel
theorem dJ2_getChar_3b067_11 : decode cJ2_getChar_3b067 11 = .ok (.aload_n 0, 1) := by decide +kernel
theorem dJ2_getChar_3b067_12 : decode cJ2_getChar_3b067 12 = .ok (.invokestatic 48, 3) := by decide +kernel
theorem dJ2_getChar_3b067_15 : decode cJ2_getChar_3b067 15 = .ok (.if_icmp .lt 13, 3) := by decide +kernel
theorem dJ2_getChar_3b067_18 : decode cJ2_getChar_3b067 18 = .ok (.new 52, 3) := by decide +kernel
theorem dJ2_getChar_3b067_21 : decode cJ2_getChar_3b067 21 = .ok (.dup, 1) := by decide +kernel
theorem dJ2_getChar_3b067_22 : decode cJ2_getChar_3b067 22 = .ok (.ldc 54, 2) := by decide +kernel
theorem dJ2_getChar_3b067_24 : decode cJ2_getChar_3b067 24 = .ok (.invokespecial 56, 3) := by decide +kernel
theorem dJ2_getChar_3b067_27 : decode cJ2_getChar_3b067 27 = .ok (.athrow, 1) := by decide +kernel
theorem dJ2_getChar_3b067_28 : decode cJ2_getChar_3b067 28 = .ok (.iload_n 1, 1) := by decide +kernel
theorem dJ2_getChar_3b067_29 : decode cJ2_getChar_3b067 29 = .ok (.iconst 1, 1) := by decide +kernel
theorem dJ2_getChar_3b067_30 : decode cJ2_getChar_3b067 30 = .ok (.ishl, 1) := by decide +kernel
theorem dJ2_getChar_3b067_31 : decode cJ2_getChar_3b067 31 = .ok (.istore_n 1, 1) := by decide +kernel
theorem dJ2_getChar_3b067_32 : decode cJ2_getChar_3b067 32 = .ok (.aload_n 0, 1) := by decide +kernel
theorem dJ2_getChar_3b067_33 : decode cJ2_getChar_3b067 33 = .ok (.iload_n 1, 1) := by decide +kernel
theorem dJ2_getChar_3b067_34 : decode cJ2_getChar_3b067 34 = .ok (.iinc 1 1, 3) := by decide +kernel
theorem dJ2_getChar_3b067_37 : decode cJ2_getChar_3b067 37 = .ok (.baload, 1) := by decide +kernel
theorem dJ2_getChar_3b067_38 : decode cJ2_getChar_3b067 38 = .ok (.sipush 255, 3) := by decide +kernel
theorem dJ2_getChar_3b067_41 : decode cJ2_getChar_3b067 41 = .ok (.iand, 1) := by decide +kernel
theorem dJ2_getChar_3b067_42 : decode cJ2_getChar_3b067 42 = .ok (.getstatic 59, 3) := by decide +kernel
theorem dJ2_getChar_3b067_45 : decode cJ2_getChar_3b067 45 = .ok (.ishl, 1) := by decide +kernel
theorem dJ2_getChar_3b067_46 : decode cJ2_getChar_3b067 46 = .ok (.aload_n 0, 1) := by decide +kernel
theorem dJ2_getChar_3b067_47 : decode cJ2_getChar_3b067 47 = .ok (.iload_n 1, 1) := by decide +kernel
theorem dJ2_getChar_3b067_48 : decode cJ2_getChar_3b067 48 = .ok (.baload, 1) := by decide +kernel
theorem dJ2_getChar_3b067_49 : decode cJ2_getChar_3b067 49 = .ok (.sipush 255, 3) := by decide +kernel
theorem dJ2_getChar_3b067_52 : decode cJ2_getChar_3b067 52 = .ok (.iand, 1) := by decide +kernel
theorem dJ2_getChar_3b067_53 : decode cJ2_getChar_3b067 53 = .ok (.getstatic 63, 3) := by decide +kernel
theorem dJ2_getChar_3b067_56 : decode cJ2_getChar_3b067 56 = .ok (.ishl, 1) := by decide +kernel
theorem dJ2_getChar_3b067_57 : decode cJ2_getChar_3b067 57 = .ok (.ior, 1) := by decide +kernel
theorem dJ2_getChar_3b067_58 : decode cJ2_getChar_3b067 58 = .ok (.i2c, 1) := by decide +kernel
theorem dJ2_getChar_3b067_59 : decode cJ2_getChar_3b067 59 = .ok (.ireturn, 1) := by decide +kernel
theorem dJ2_length_9d52b_0 : decode cJ2_length_9d52b 0 = .ok (.aload_n 0, 1) := by decide +kernel
theorem dJ2_length_9d52b_1 : decode cJ2_length_9d52b 1 = .ok (.arraylength, 1) := by decide +kernel
theorem dJ2_length_9d52b_2 : decode cJ2_length_9d52b 2 = .ok (.iconst 1, 1) := by decide +kernel
theorem dJ2_length_9d52b_3 : decode cJ2_length_9d52b 3 = .ok (.ishr, 1) := by decide +kernel
theorem dJ2_length_9d52b_4 : decode cJ2_length_9d52b 4 = .ok (.ireturn, 1) := by decide +kernel
theorem dJ2_charAt_3b067_0 : decode cJ2_charAt_3b067 0 = .ok (.iload_n 1, 1) := by decide +kernel
theorem dJ2_charAt_3b067_1 : decode cJ2_charAt_3b067 1 = .ok (.aload_n 0, 1) := by decide +kernel
theorem dJ2_charAt_3b067_2 : decode cJ2_charAt_3b067 2 = .ok (.invokestatic 67, 3) := by decide +kernel
theorem dJ2_charAt_3b067_5 : decode cJ2_charAt_3b067 5 = .ok (.aload_n 0, 1) := by decide +kernel
theorem dJ2_charAt_3b067_6 : decode cJ2_charAt_3b067 6 = .ok (.iload_n 1, 1) := by decide +kernel
theorem dJ2_charAt_3b067_7 : decode cJ2_charAt_3b067 7 = .ok (.invokestatic 71, 3) := by decide +kernel
theorem dJ2_charAt_3b067_10 : decode cJ2_charAt_3b067 10 = .ok (.ireturn, 1) := by decide +kernel
theorem dJ2_checkIndex_2214a_0 : decode cJ2_checkIndex_2214a 0 = .ok (.iload_n 0, 1) := by decide +kernel
theorem dJ2_checkIndex_2214a_1 : decode cJ2_checkIndex_2214a 1 = .ok (.aload_n 1, 1) := by decide +kernel
theorem dJ2_checkIndex_2214a_2 : decode cJ2_checkIndex_2214a 2 = .ok (.invokestatic 48, 3) := by decide +kernel
theorem dJ2_checkIndex_2214a_5 : decode cJ2_checkIndex_2214a 5 = .ok (.invokestatic 414, 3) := by decide +kernel
theorem dJ2_checkIndex_2214a_8 : decode cJ2_checkIndex_2214a 8 = .ok (.return_, 1) := by decide +kernel
theorem dJ7_fill_d0a16_0 : decode cJ7_fill_d0a16 0 = .ok (.iconst 0, 1) := by decide +kernel
theorem dJ7_fill_d0a16_1 : decode cJ7_fill_d0a16 1 = .ok (.istore_n 3, 1) := by decide +kernel
theorem dJ7_fill_d0a16_2 : decode cJ7_fill_d0a16 2 = .ok (.aload_n 0, 1) := by decide +kernel
theorem dJ7_fill_d0a16_3 : decode cJ7_fill_d0a16 3 = .ok (.arraylength, 1) := by decide +kernel
theorem dJ7_fill_d0a16_4 : decode cJ7_fill_d0a16 4 = .ok (.istore 4, 2) := by decide +kernel
theorem dJ7_fill_d0a16_6 : decode cJ7_fill_d0a16 6 = .ok (.iload_n 3, 1) := by decide +kernel
theorem dJ7_fill_d0a16_7 : decode cJ7_fill_d0a16 7 = .ok (.iload 4, 2) := by decide +kernel
theorem dJ7_fill_d0a16_9 : decode cJ7_fill_d0a16 9 = .ok (.if_icmp .ge 13, 3) := by decide +kernel
theorem dJ7_fill_d0a16_12 : decode cJ7_fill_d0a16 12 = .ok (.aload_n 0, 1) := by decide +kernel
theorem dJ7_fill_d0a16_13 : decode cJ7_fill_d0a16 13 = .ok (.iload_n 3, 1) := by decide +kernel
theorem dJ7_fill_d0a16_14 : decode cJ7_fill_d0a16 14 = .ok (.lload_n 1, 1) := by decide +kernel
theorem dJ7_fill_d0a16_15 : decode cJ7_fill_d0a16 15 = .ok (.lastore, 1) := by decide +kernel
theorem dJ7_fill_d0a16_16 : decode cJ7_fill_d0a16 16 = .ok (.iinc 3 1, 3) := by decide +kernel
theorem dJ7_fill_d0a16_19 : decode cJ7_fill_d0a16 19 = .ok (.goto (-13), 3) := by decide +kernel
theorem dJ7_fill_d0a16_22 : decode cJ7_fill_d0a16 22 = .ok (.return_, 1) := by decide +kernel
theorem dJ7_fill_53178_0 : decode cJ7_fill_53178 0 = .ok (.iconst 0, 1) := by decide +kernel
theorem dJ7_fill_53178_1 : decode cJ7_fill_53178 1 = .ok (.istore_n 2, 1) := by decide +kernel
theorem dJ7_fill_53178_2 : decode cJ7_fill_53178 2 = .ok (.aload_n 0, 1) := by decide +kernel
theorem dJ7_fill_53178_3 : decode cJ7_fill_53178 3 = .ok (.arraylength, 1) := by decide +kernel
theorem dJ7_fill_53178_4 : decode cJ7_fill_53178 4 = .ok (.istore_n 3, 1) := by decide +kernel
theorem dJ7_fill_53178_5 : decode cJ7_fill_53178 5 = .ok (.iload_n 2, 1) := by decide +kernel
theorem dJ7_fill_53178_6 : decode cJ7_fill_53178 6 = .ok (.iload_n 3, 1) := by decide +kernel
theorem dJ7_fill_53178_7 : decode cJ7_fill_53178 7 = .ok (.if_icmp .ge 13, 3) := by decide +kernel
theorem dJ7_fill_53178_10 : decode cJ7_fill_53178 10 = .ok (.aload_n 0, 1) := by decide +kernel
theorem dJ7_fill_53178_11 : decode cJ7_fill_53178 11 = .ok (.iload_n 2, 1) := by decide +kernel
theorem dJ7_fill_53178_12 : decode cJ7_fill_53178 12 = .ok (.iload_n 1, 1) := by decide +kernel
theorem dJ7_fill_53178_13 : decode cJ7_fill_53178 13 = .ok (.iastore, 1) := by decide +kernel
theorem dJ7_fill_53178_14 : decode cJ7_fill_53178 14 = .ok (.iinc 2 1, 3) := by decide +kernel
theorem dJ7_fill_53178_17 : decode cJ7_fill_53178 17 = .ok (.goto (-12), 3) := by decide +kernel
theorem dJ7_fill_53178_20 : decode cJ7_fill_53178 20 = .ok (.return_, 1) := by decide +kernel
theorem dJ3_checkIndex_8e157_0 : decode cJ3_checkIndex_8e157 0 = .ok (.iload_n 0, 1) := by decide +kernel
theorem dJ3_checkIndex_8e157_1 : decode cJ3_checkIndex_8e157 1 = .ok (.ifCond .lt 8, 3) := by decide +kernel
theorem dJ3_checkIndex_8e157_4 : decode cJ3_checkIndex_8e157 4 = .ok (.iload_n 0, 1) := by decide +kernel
theorem dJ3_checkIndex_8e157_5 : decode cJ3_checkIndex_8e157 5 = .ok (.iload_n 1, 1) := by decide +kernel
theorem dJ3_checkIndex_8e157_6 : decode cJ3_checkIndex_8e157 6 = .ok (.if_icmp .lt 10, 3) := by decide +kernel
theorem dJ3_checkIndex_8e157_9 : decode cJ3_checkIndex_8e157 9 = .ok (.aload_n 2, 1) := by decide +kernel
theorem dJ3_checkIndex_8e157_10 : decode cJ3_checkIndex_8e157 10 = .ok (.iload_n 0, 1) := by decide +kernel
theorem dJ3_checkIndex_8e157_11 : decode cJ3_checkIndex_8e157 11 = .ok (.iload_n 1, 1) := by decide +kernel
theorem dJ3_checkIndex_8e157_12 : decode cJ3_checkIndex_8e157 12 = .ok (.invokestatic 95, 3) := by decide +kernel
theorem dJ3_checkIndex_8e157_15 : decode cJ3_checkIndex_8e157 15 = .ok (.athrow, 1) := by decide +kernel
theorem dJ3_checkIndex_8e157_16 : decode cJ3_checkIndex_8e157 16 = .ok (.iload_n 0, 1) := by decide +kernel
theorem dJ3_checkIndex_8e157_17 : decode cJ3_checkIndex_8e157 17 = .ok (.ireturn, 1) := by decide +kernel
theorem dL_hall_0 : decode cL_hall 0 = .ok (.aload_n 1, 1) := by decide +kernel
theorem dL_hall_1 : decode cL_hall 1 = .ok (.iconst 0, 1) := by decide +kernel
theorem dL_hall_2 : decode cL_hall 2 = .ok (.aload_n 0, 1) := by decide +kernel
theorem dL_hall_3 : decode cL_hall 3 = .ok (.invokevirtual 7, 3) := by decide +kernel
theorem dL_hall_6 : decode cL_hall 6 = .ok (.i2l, 1) := by decide +kernel
theorem dL_hall_7 : decode cL_hall 7 = .ok (.lastore, 1) := by decide +kernel
theorem dL_hall_8 : decode cL_hall 8 = .ok (.goto 9, 3) := by decide +kernel
theorem dL_hall_11 : decode cL_hall 11 = .ok (.astore_n 2, 1) := by decide +kernel
theorem dL_hall_12 : decode cL_hall 12 = .ok (.iconst 1, 1) := by decide +kernel
theorem dL_hall_13 : decode cL_hall 13 = .ok (.ireturn, 1) := by decide +kernel
theorem dL_hall_14 : decode cL_hall 14 = .ok (.astore_n 2, 1) := by decide +kernel
theorem dL_hall_15 : decode cL_hall 15 = .ok (.iconst 2, 1) := by decide +kernel
theorem dL_hall_16 : decode cL_hall 16 = .ok (.ireturn, 1) := by decide +kernel
theorem dL_hall_17 : decode cL_hall 17 = .ok (.iconst 0, 1) := by decide +kernel
theorem dL_hall_18 : decode cL_hall 18 = .ok (.ireturn, 1) := by decide +kernel
theorem dL_law_0 : decode cL_law 0 = .ok (.aload_n 1, 1) := by decide +kernel
theorem dL_law_1 : decode cL_law 1 = .ok (.iconst 0, 1) := by decide +kernel
theorem dL_law_2 : decode cL_law 2 = .ok (.aload_n 0, 1) := by decide +kernel
theorem dL_law_3 : decode cL_law 3 = .ok (.invokevirtual 17, 3) := by decide +kernel
theorem dL_law_6 : decode cL_law 6 = .ok (.i2l, 1) := by decide +kernel
theorem dL_law_7 : decode cL_law 7 = .ok (.lastore, 1) := by decide +kernel
theorem dL_law_8 : decode cL_law 8 = .ok (.goto 6, 3) := by decide +kernel
theorem dL_law_11 : decode cL_law 11 = .ok (.astore_n 2, 1) := by decide +kernel
theorem dL_law_12 : decode cL_law 12 = .ok (.iconst 1, 1) := by decide +kernel
theorem dL_law_13 : decode cL_law 13 = .ok (.ireturn, 1) := by decide +kernel
theorem dL_law_14 : decode cL_law 14 = .ok (.iconst 0, 1) := by decide +kernel
theorem dL_law_15 : decode cL_law 15 = .ok (.ireturn, 1) := by decide +kernel
theorem dL_thing_0 : decode cL_thing 0 = .ok (.aload_n 3, 1) := by decide +kernel
theorem dL_thing_1 : decode cL_thing 1 = .ok (.iconst 0, 1) := by decide +kernel
theorem dL_thing_2 : decode cL_thing 2 = .ok (.aload_n 0, 1) := by decide +kernel
theorem dL_thing_3 : decode cL_thing 3 = .ok (.iload_n 1, 1) := by decide +kernel
theorem dL_thing_4 : decode cL_thing 4 = .ok (.iload_n 2, 1) := by decide +kernel
theorem dL_thing_5 : decode cL_thing 5 = .ok (.invokevirtual 20, 3) := by decide +kernel
theorem dL_thing_8 : decode cL_thing 8 = .ok (.i2l, 1) := by decide +kernel
theorem dL_thing_9 : decode cL_thing 9 = .ok (.lastore, 1) := by decide +kernel
theorem dL_thing_10 : decode cL_thing 10 = .ok (.goto 11, 3) := by decide +kernel
theorem dL_thing_13 : decode cL_thing 13 = .ok (.astore 4, 2) := by decide +kernel
theorem dL_thing_15 : decode cL_thing 15 = .ok (.iconst 1, 1) := by decide +kernel
theorem dL_thing_16 : decode cL_thing 16 = .ok (.ireturn, 1) := by decide +kernel
theorem dL_thing_17 : decode cL_thing 17 = .ok (.astore 4, 2) := by decide +kernel
theorem dL_thing_19 : decode cL_thing 19 = .ok (.iconst 2, 1) := by decide +kernel
theorem dL_thing_20 : decode cL_thing 20 = .ok (.ireturn, 1) := by decide +kernel
theorem dL_thing_21 : decode cL_thing 21 = .ok (.iconst 0, 1) := by decide +kernel
theorem dL_thing_22 : decode cL_thing 22 = .ok (.ireturn, 1) := by decide +kernel
theorem dL_visitor_0 : decode cL_visitor 0 = .ok (.aload_n 3, 1) := by decide +kernel
theorem dL_visitor_1 : decode cL_visitor 1 = .ok (.iconst 0, 1) := by decide +kernel
theorem dL_visitor_2 : decode cL_visitor 2 = .ok (.aload_n 0, 1) := by decide +kernel
theorem dL_visitor_3 : decode cL_visitor 3 = .ok (.iload_n 1, 1) := by decide +kernel
theorem dL_visitor_4 : decode cL_visitor 4 = .ok (.iload_n 2, 1) := by decide +kernel
theorem dL_visitor_5 : decode cL_visitor 5 = .ok (.invokevirtual 28, 3) := by decide +kernel
theorem dL_visitor_8 : decode cL_visitor 8 = .ok (.i2l, 1) := by decide +kernel
theorem dL_visitor_9 : decode cL_visitor 9 = .ok (.lastore, 1) := by decide +kernel
theorem dL_visitor_10 : decode cL_visitor 10 = .ok (.goto 11, 3) := by decide +kernel
theorem dL_visitor_13 : decode cL_visitor 13 = .ok (.astore 4, 2) := by decide +kernel
theorem dL_visitor_15 : decode cL_visitor 15 = .ok (.iconst 1, 1) := by decide +kernel
theorem dL_visitor_16 : decode cL_visitor 16 = .ok (.ireturn, 1) := by decide +kernel
theorem dL_visitor_17 : decode cL_visitor 17 = .ok (.astore 4, 2) := by decide +kernel
theorem dL_visitor_19 : decode cL_visitor 19 = .ok (.iconst 2, 1) := by decide +kernel
theorem dL_visitor_20 : decode cL_visitor 20 = .ok (.ireturn, 1) := by decide +kernel
theorem dL_visitor_21 : decode cL_visitor 21 = .ok (.iconst 0, 1) := by decide +kernel
theorem dL_visitor_22 : decode cL_visitor 22 = .ok (.ireturn, 1) := by decide +kernel
theorem dL_liking_0 : decode cL_liking 0 = .ok (.aload_n 3, 1) := by decide +kernel
theorem dL_liking_1 : decode cL_liking 1 = .ok (.iconst 0, 1) := by decide +kernel
theorem dL_liking_2 : decode cL_liking 2 = .ok (.aload_n 0, 1) := by decide +kernel
theorem dL_liking_3 : decode cL_liking 3 = .ok (.iload_n 1, 1) := by decide +kernel
theorem dL_liking_4 : decode cL_liking 4 = .ok (.iload_n 2, 1) := by decide +kernel
theorem dL_liking_5 : decode cL_liking 5 = .ok (.invokevirtual 31, 3) := by decide +kernel
theorem dL_liking_8 : decode cL_liking 8 = .ok (.i2l, 1) := by decide +kernel
theorem dL_liking_9 : decode cL_liking 9 = .ok (.lastore, 1) := by decide +kernel
theorem dL_liking_10 : decode cL_liking 10 = .ok (.goto 7, 3) := by decide +kernel
theorem dL_liking_13 : decode cL_liking 13 = .ok (.astore 4, 2) := by decide +kernel
theorem dL_liking_15 : decode cL_liking 15 = .ok (.iconst 1, 1) := by decide +kernel
theorem dL_liking_16 : decode cL_liking 16 = .ok (.ireturn, 1) := by decide +kernel
theorem dL_liking_17 : decode cL_liking 17 = .ok (.iconst 0, 1) := by decide +kernel
theorem dL_liking_18 : decode cL_liking 18 = .ok (.ireturn, 1) := by decide +kernel
theorem dL_move_0 : decode cL_move 0 = .ok (.aload_n 3, 1) := by decide +kernel
theorem dL_move_1 : decode cL_move 1 = .ok (.iconst 0, 1) := by decide +kernel
theorem dL_move_2 : decode cL_move 2 = .ok (.aload_n 0, 1) := by decide +kernel
theorem dL_move_3 : decode cL_move 3 = .ok (.iload_n 1, 1) := by decide +kernel
theorem dL_move_4 : decode cL_move 4 = .ok (.iload_n 2, 1) := by decide +kernel
theorem dL_move_5 : decode cL_move 5 = .ok (.invokevirtual 34, 3) := by decide +kernel
theorem dL_move_8 : decode cL_move 8 = .ok (.i2l, 1) := by decide +kernel
theorem dL_move_9 : decode cL_move 9 = .ok (.lastore, 1) := by decide +kernel
theorem dL_move_10 : decode cL_move 10 = .ok (.goto 7, 3) := by decide +kernel
theorem dL_move_13 : decode cL_move 13 = .ok (.astore 4, 2) := by decide +kernel
theorem dL_move_15 : decode cL_move 15 = .ok (.iconst 1, 1) := by decide +kernel
theorem dL_move_16 : decode cL_move 16 = .ok (.ireturn, 1) := by decide +kernel
theorem dL_move_17 : decode cL_move 17 = .ok (.iconst 0, 1) := by decide +kernel
theorem dL_move_18 : decode cL_move 18 = .ok (.ireturn, 1) := by decide +kernel
theorem dL_hold_0 : decode cL_hold 0 = .ok (.aload_n 3, 1) := by decide +kernel
theorem dL_hold_1 : decode cL_hold 1 = .ok (.iconst 0, 1) := by decide +kernel
theorem dL_hold_2 : decode cL_hold 2 = .ok (.aload_n 0, 1) := by decide +kernel
theorem dL_hold_3 : decode cL_hold 3 = .ok (.iload_n 1, 1) := by decide +kernel
theorem dL_hold_4 : decode cL_hold 4 = .ok (.iload_n 2, 1) := by decide +kernel
theorem dL_hold_5 : decode cL_hold 5 = .ok (.invokevirtual 37, 3) := by decide +kernel
theorem dL_hold_8 : decode cL_hold 8 = .ok (.i2l, 1) := by decide +kernel
theorem dL_hold_9 : decode cL_hold 9 = .ok (.lastore, 1) := by decide +kernel
theorem dL_hold_10 : decode cL_hold 10 = .ok (.goto 11, 3) := by decide +kernel
theorem dL_hold_13 : decode cL_hold 13 = .ok (.astore 4, 2) := by decide +kernel
theorem dL_hold_15 : decode cL_hold 15 = .ok (.iconst 1, 1) := by decide +kernel
theorem dL_hold_16 : decode cL_hold 16 = .ok (.ireturn, 1) := by decide +kernel
theorem dL_hold_17 : decode cL_hold 17 = .ok (.astore 4, 2) := by decide +kernel
theorem dL_hold_19 : decode cL_hold 19 = .ok (.iconst 2, 1) := by decide +kernel
theorem dL_hold_20 : decode cL_hold 20 = .ok (.ireturn, 1) := by decide +kernel
theorem dL_hold_21 : decode cL_hold 21 = .ok (.iconst 0, 1) := by decide +kernel
theorem dL_hold_22 : decode cL_hold 22 = .ok (.ireturn, 1) := by decide +kernel
theorem dL_show_0 : decode cL_show 0 = .ok (.aload_n 3, 1) := by decide +kernel
theorem dL_show_1 : decode cL_show 1 = .ok (.iconst 0, 1) := by decide +kernel
theorem dL_show_2 : decode cL_show 2 = .ok (.aload_n 0, 1) := by decide +kernel
theorem dL_show_3 : decode cL_show 3 = .ok (.iload_n 1, 1) := by decide +kernel
theorem dL_show_4 : decode cL_show 4 = .ok (.iload_n 2, 1) := by decide +kernel
theorem dL_show_5 : decode cL_show 5 = .ok (.invokevirtual 40, 3) := by decide +kernel
theorem dL_show_8 : decode cL_show 8 = .ok (.ifCond .eq 7, 3) := by decide +kernel
theorem dL_show_11 : decode cL_show 11 = .ok (.lconst 1, 1) := by decide +kernel
theorem dL_show_12 : decode cL_show 12 = .ok (.goto 4, 3) := by decide +kernel
theorem dL_show_15 : decode cL_show 15 = .ok (.lconst 0, 1) := by decide +kernel
theorem dL_show_16 : decode cL_show 16 = .ok (.lastore, 1) := by decide +kernel
theorem dL_show_17 : decode cL_show 17 = .ok (.goto 7, 3) := by decide +kernel
theorem dL_show_20 : decode cL_show 20 = .ok (.astore 4, 2) := by decide +kernel
theorem dL_show_22 : decode cL_show 22 = .ok (.iconst 1, 1) := by decide +kernel
theorem dL_show_23 : decode cL_show 23 = .ok (.ireturn, 1) := by decide +kernel
theorem dL_show_24 : decode cL_show 24 = .ok (.iconst 0, 1) := by decide +kernel
theorem dL_show_25 : decode cL_show 25 = .ok (.ireturn, 1) := by decide +kernel
theorem dL_clean_0 : decode cL_clean 0 = .ok (.aload_n 3, 1) := by decide +kernel
theorem dL_clean_1 : decode cL_clean 1 = .ok (.iconst 0, 1) := by decide +kernel
theorem dL_clean_2 : decode cL_clean 2 = .ok (.aload_n 0, 1) := by decide +kernel
theorem dL_clean_3 : decode cL_clean 3 = .ok (.iload_n 1, 1) := by decide +kernel
theorem dL_clean_4 : decode cL_clean 4 = .ok (.iload_n 2, 1) := by decide +kernel
theorem dL_clean_5 : decode cL_clean 5 = .ok (.invokevirtual 44, 3) := by decide +kernel
theorem dL_clean_8 : decode cL_clean 8 = .ok (.i2l, 1) := by decide +kernel
theorem dL_clean_9 : decode cL_clean 9 = .ok (.lastore, 1) := by decide +kernel
theorem dL_clean_10 : decode cL_clean 10 = .ok (.goto 11, 3) := by decide +kernel
theorem dL_clean_13 : decode cL_clean 13 = .ok (.astore 4, 2) := by decide +kernel
theorem dL_clean_15 : decode cL_clean 15 = .ok (.iconst 1, 1) := by decide +kernel
theorem dL_clean_16 : decode cL_clean 16 = .ok (.ireturn, 1) := by decide +kernel
theorem dL_clean_17 : decode cL_clean 17 = .ok (.astore 4, 2) := by decide +kernel
theorem dL_clean_19 : decode cL_clean 19 = .ok (.iconst 2, 1) := by decide +kernel
theorem dL_clean_20 : decode cL_clean 20 = .ok (.ireturn, 1) := by decide +kernel
theorem dL_clean_21 : decode cL_clean 21 = .ok (.iconst 0, 1) := by decide +kernel
theorem dL_clean_22 : decode cL_clean 22 = .ok (.ireturn, 1) := by decide +kernel
theorem dL_mark_0 : decode cL_mark 0 = .ok (.aload 4, 2) := by decide +kernel
theorem dL_mark_2 : decode cL_mark 2 = .ok (.iconst 0, 1) := by decide +kernel
theorem dL_mark_3 : decode cL_mark 3 = .ok (.aload_n 0, 1) := by decide +kernel
theorem dL_mark_4 : decode cL_mark 4 = .ok (.iload_n 1, 1) := by decide +kernel
theorem dL_mark_5 : decode cL_mark 5 = .ok (.iload_n 2, 1) := by decide +kernel
theorem dL_mark_6 : decode cL_mark 6 = .ok (.iload_n 3, 1) := by decide +kernel
theorem dL_mark_7 : decode cL_mark 7 = .ok (.invokevirtual 47, 3) := by decide +kernel
theorem dL_mark_10 : decode cL_mark 10 = .ok (.ifCond .eq 7, 3) := by decide +kernel
theorem dL_mark_13 : decode cL_mark 13 = .ok (.lconst 1, 1) := by decide +kernel
theorem dL_mark_14 : decode cL_mark 14 = .ok (.goto 4, 3) := by decide +kernel
theorem dL_mark_17 : decode cL_mark 17 = .ok (.lconst 0, 1) := by decide +kernel
theorem dL_mark_18 : decode cL_mark 18 = .ok (.lastore, 1) := by decide +kernel
theorem dL_mark_19 : decode cL_mark 19 = .ok (.goto 7, 3) := by decide +kernel
theorem dL_mark_22 : decode cL_mark 22 = .ok (.astore 5, 2) := by decide +kernel
theorem dL_mark_24 : decode cL_mark 24 = .ok (.iconst 1, 1) := by decide +kernel
theorem dL_mark_25 : decode cL_mark 25 = .ok (.ireturn, 1) := by decide +kernel
theorem dL_mark_26 : decode cL_mark 26 = .ok (.iconst 0, 1) := by decide +kernel
theorem dL_mark_27 : decode cL_mark 27 = .ok (.ireturn, 1) := by decide +kernel
theorem dL_trade_0 : decode cL_trade 0 = .ok (.aload_n 0, 1) := by decide +kernel
theorem dL_trade_1 : decode cL_trade 1 = .ok (.iload_n 1, 1) := by decide +kernel
theorem dL_trade_2 : decode cL_trade 2 = .ok (.iload_n 2, 1) := by decide +kernel
theorem dL_trade_3 : decode cL_trade 3 = .ok (.invokevirtual 51, 3) := by decide +kernel
theorem dL_trade_6 : decode cL_trade 6 = .ok (.goto 9, 3) := by decide +kernel
theorem dL_trade_9 : decode cL_trade 9 = .ok (.astore_n 3, 1) := by decide +kernel
theorem dL_trade_10 : decode cL_trade 10 = .ok (.iconst 1, 1) := by decide +kernel
theorem dL_trade_11 : decode cL_trade 11 = .ok (.ireturn, 1) := by decide +kernel
theorem dL_trade_12 : decode cL_trade 12 = .ok (.astore_n 3, 1) := by decide +kernel
theorem dL_trade_13 : decode cL_trade 13 = .ok (.iconst 2, 1) := by decide +kernel
theorem dL_trade_14 : decode cL_trade 14 = .ok (.ireturn, 1) := by decide +kernel
theorem dL_trade_15 : decode cL_trade 15 = .ok (.iconst 0, 1) := by decide +kernel
theorem dL_trade_16 : decode cL_trade 16 = .ok (.ireturn, 1) := by decide +kernel
theorem dL_days_0 : decode cL_days 0 = .ok (.aload_n 2, 1) := by decide +kernel
theorem dL_days_1 : decode cL_days 1 = .ok (.iconst 0, 1) := by decide +kernel
theorem dL_days_2 : decode cL_days 2 = .ok (.aload_n 0, 1) := by decide +kernel
theorem dL_days_3 : decode cL_days 3 = .ok (.iload_n 1, 1) := by decide +kernel
theorem dL_days_4 : decode cL_days 4 = .ok (.invokevirtual 55, 3) := by decide +kernel
theorem dL_days_7 : decode cL_days 7 = .ok (.i2l, 1) := by decide +kernel
theorem dL_days_8 : decode cL_days 8 = .ok (.lastore, 1) := by decide +kernel
theorem dL_days_9 : decode cL_days 9 = .ok (.goto 6, 3) := by decide +kernel
theorem dL_days_12 : decode cL_days 12 = .ok (.astore_n 3, 1) := by decide +kernel
theorem dL_days_13 : decode cL_days 13 = .ok (.iconst 1, 1) := by decide +kernel
theorem dL_days_14 : decode cL_days 14 = .ok (.ireturn, 1) := by decide +kernel
theorem dL_days_15 : decode cL_days 15 = .ok (.iconst 0, 1) := by decide +kernel
theorem dL_days_16 : decode cL_days 16 = .ok (.ireturn, 1) := by decide +kernel
theorem dL_dearest_0 : decode cL_dearest 0 = .ok (.aload_n 2, 1) := by decide +kernel
theorem dL_dearest_1 : decode cL_dearest 1 = .ok (.iconst 0, 1) := by decide +kernel
theorem dL_dearest_2 : decode cL_dearest 2 = .ok (.aload_n 0, 1) := by decide +kernel
theorem dL_dearest_3 : decode cL_dearest 3 = .ok (.iload_n 1, 1) := by decide +kernel
theorem dL_dearest_4 : decode cL_dearest 4 = .ok (.invokevirtual 59, 3) := by decide +kernel
theorem dL_dearest_7 : decode cL_dearest 7 = .ok (.i2l, 1) := by decide +kernel
theorem dL_dearest_8 : decode cL_dearest 8 = .ok (.lastore, 1) := by decide +kernel
theorem dL_dearest_9 : decode cL_dearest 9 = .ok (.goto 6, 3) := by decide +kernel
theorem dL_dearest_12 : decode cL_dearest 12 = .ok (.astore_n 3, 1) := by decide +kernel
theorem dL_dearest_13 : decode cL_dearest 13 = .ok (.iconst 1, 1) := by decide +kernel
theorem dL_dearest_14 : decode cL_dearest 14 = .ok (.ireturn, 1) := by decide +kernel
theorem dL_dearest_15 : decode cL_dearest 15 = .ok (.iconst 0, 1) := by decide +kernel
theorem dL_dearest_16 : decode cL_dearest 16 = .ok (.ireturn, 1) := by decide +kernel
theorem dL_right_0 : decode cL_right 0 = .ok (.aload_n 3, 1) := by decide +kernel
theorem dL_right_1 : decode cL_right 1 = .ok (.iconst 0, 1) := by decide +kernel
theorem dL_right_2 : decode cL_right 2 = .ok (.aload_n 0, 1) := by decide +kernel
theorem dL_right_3 : decode cL_right 3 = .ok (.iload_n 1, 1) := by decide +kernel
theorem dL_right_4 : decode cL_right 4 = .ok (.iload_n 2, 1) := by decide +kernel
theorem dL_right_5 : decode cL_right 5 = .ok (.invokevirtual 62, 3) := by decide +kernel
theorem dL_right_8 : decode cL_right 8 = .ok (.i2l, 1) := by decide +kernel
theorem dL_right_9 : decode cL_right 9 = .ok (.lastore, 1) := by decide +kernel
theorem dL_right_10 : decode cL_right 10 = .ok (.goto 7, 3) := by decide +kernel
theorem dL_right_13 : decode cL_right 13 = .ok (.astore 4, 2) := by decide +kernel
theorem dL_right_15 : decode cL_right 15 = .ok (.iconst 1, 1) := by decide +kernel
theorem dL_right_16 : decode cL_right 16 = .ok (.ireturn, 1) := by decide +kernel
theorem dL_right_17 : decode cL_right 17 = .ok (.iconst 0, 1) := by decide +kernel
theorem dL_right_18 : decode cL_right 18 = .ok (.ireturn, 1) := by decide +kernel
theorem dL_rivals_0 : decode cL_rivals 0 = .ok (.aload_n 3, 1) := by decide +kernel
theorem dL_rivals_1 : decode cL_rivals 1 = .ok (.iconst 0, 1) := by decide +kernel
theorem dL_rivals_2 : decode cL_rivals 2 = .ok (.aload_n 0, 1) := by decide +kernel
theorem dL_rivals_3 : decode cL_rivals 3 = .ok (.iload_n 1, 1) := by decide +kernel
theorem dL_rivals_4 : decode cL_rivals 4 = .ok (.iload_n 2, 1) := by decide +kernel
theorem dL_rivals_5 : decode cL_rivals 5 = .ok (.invokevirtual 66, 3) := by decide +kernel
theorem dL_rivals_8 : decode cL_rivals 8 = .ok (.i2l, 1) := by decide +kernel
theorem dL_rivals_9 : decode cL_rivals 9 = .ok (.lastore, 1) := by decide +kernel
theorem dL_rivals_10 : decode cL_rivals 10 = .ok (.goto 11, 3) := by decide +kernel
theorem dL_rivals_13 : decode cL_rivals 13 = .ok (.astore 4, 2) := by decide +kernel
theorem dL_rivals_15 : decode cL_rivals 15 = .ok (.iconst 1, 1) := by decide +kernel
theorem dL_rivals_16 : decode cL_rivals 16 = .ok (.ireturn, 1) := by decide +kernel
theorem dL_rivals_17 : decode cL_rivals 17 = .ok (.astore 4, 2) := by decide +kernel
theorem dL_rivals_19 : decode cL_rivals 19 = .ok (.iconst 2, 1) := by decide +kernel
theorem dL_rivals_20 : decode cL_rivals 20 = .ok (.ireturn, 1) := by decide +kernel
theorem dL_rivals_21 : decode cL_rivals 21 = .ok (.iconst 0, 1) := by decide +kernel
theorem dL_rivals_22 : decode cL_rivals 22 = .ok (.ireturn, 1) := by decide +kernel
theorem dL_group_0 : decode cL_group 0 = .ok (.aload_n 3, 1) := by decide +kernel
theorem dL_group_1 : decode cL_group 1 = .ok (.iconst 0, 1) := by decide +kernel
theorem dL_group_2 : decode cL_group 2 = .ok (.aload_n 0, 1) := by decide +kernel
theorem dL_group_3 : decode cL_group 3 = .ok (.iload_n 1, 1) := by decide +kernel
theorem dL_group_4 : decode cL_group 4 = .ok (.iload_n 2, 1) := by decide +kernel
theorem dL_group_5 : decode cL_group 5 = .ok (.invokevirtual 69, 3) := by decide +kernel
theorem dL_group_8 : decode cL_group 8 = .ok (.i2l, 1) := by decide +kernel
theorem dL_group_9 : decode cL_group 9 = .ok (.lastore, 1) := by decide +kernel
theorem dL_group_10 : decode cL_group 10 = .ok (.goto 7, 3) := by decide +kernel
theorem dL_group_13 : decode cL_group 13 = .ok (.astore 4, 2) := by decide +kernel
theorem dL_group_15 : decode cL_group 15 = .ok (.iconst 1, 1) := by decide +kernel
theorem dL_group_16 : decode cL_group 16 = .ok (.ireturn, 1) := by decide +kernel
theorem dL_group_17 : decode cL_group 17 = .ok (.iconst 0, 1) := by decide +kernel
theorem dL_group_18 : decode cL_group 18 = .ok (.ireturn, 1) := by decide +kernel
theorem dL_wants_0 : decode cL_wants 0 = .ok (.aload_n 2, 1) := by decide +kernel
theorem dL_wants_1 : decode cL_wants 1 = .ok (.iconst 0, 1) := by decide +kernel
theorem dL_wants_2 : decode cL_wants 2 = .ok (.aload_n 0, 1) := by decide +kernel
theorem dL_wants_3 : decode cL_wants 3 = .ok (.iload_n 1, 1) := by decide +kernel
theorem dL_wants_4 : decode cL_wants 4 = .ok (.invokevirtual 72, 3) := by decide +kernel
theorem dL_wants_7 : decode cL_wants 7 = .ok (.i2l, 1) := by decide +kernel
theorem dL_wants_8 : decode cL_wants 8 = .ok (.lastore, 1) := by decide +kernel
theorem dL_wants_9 : decode cL_wants 9 = .ok (.goto 6, 3) := by decide +kernel
theorem dL_wants_12 : decode cL_wants 12 = .ok (.astore_n 3, 1) := by decide +kernel
theorem dL_wants_13 : decode cL_wants 13 = .ok (.iconst 1, 1) := by decide +kernel
theorem dL_wants_14 : decode cL_wants 14 = .ok (.ireturn, 1) := by decide +kernel
theorem dL_wants_15 : decode cL_wants 15 = .ok (.iconst 0, 1) := by decide +kernel
theorem dL_wants_16 : decode cL_wants 16 = .ok (.ireturn, 1) := by decide +kernel
theorem dL_send_0 : decode cL_send 0 = .ok (.aload_n 1, 1) := by decide +kernel
theorem dL_send_1 : decode cL_send 1 = .ok (.iconst 0, 1) := by decide +kernel
theorem dL_send_2 : decode cL_send 2 = .ok (.aload_n 0, 1) := by decide +kernel
theorem dL_send_3 : decode cL_send 3 = .ok (.invokevirtual 76, 3) := by decide +kernel
theorem dL_send_6 : decode cL_send 6 = .ok (.i2l, 1) := by decide +kernel
theorem dL_send_7 : decode cL_send 7 = .ok (.lastore, 1) := by decide +kernel
theorem dL_send_8 : decode cL_send 8 = .ok (.goto 6, 3) := by decide +kernel
theorem dL_send_11 : decode cL_send 11 = .ok (.astore_n 2, 1) := by decide +kernel
theorem dL_send_12 : decode cL_send 12 = .ok (.iconst 1, 1) := by decide +kernel
theorem dL_send_13 : decode cL_send 13 = .ok (.ireturn, 1) := by decide +kernel
theorem dL_send_14 : decode cL_send 14 = .ok (.iconst 0, 1) := by decide +kernel
theorem dL_send_15 : decode cL_send 15 = .ok (.ireturn, 1) := by decide +kernel
theorem dL_about_0 : decode cL_about 0 = .ok (.aload 4, 2) := by decide +kernel
theorem dL_about_2 : decode cL_about 2 = .ok (.iconst 0, 1) := by decide +kernel
theorem dL_about_3 : decode cL_about 3 = .ok (.aload_n 0, 1) := by decide +kernel
theorem dL_about_4 : decode cL_about 4 = .ok (.iload_n 1, 1) := by decide +kernel
theorem dL_about_5 : decode cL_about 5 = .ok (.iload_n 2, 1) := by decide +kernel
theorem dL_about_6 : decode cL_about 6 = .ok (.iload_n 3, 1) := by decide +kernel
theorem dL_about_7 : decode cL_about 7 = .ok (.invokevirtual 79, 3) := by decide +kernel
theorem dL_about_10 : decode cL_about 10 = .ok (.i2l, 1) := by decide +kernel
theorem dL_about_11 : decode cL_about 11 = .ok (.lastore, 1) := by decide +kernel
theorem dL_about_12 : decode cL_about 12 = .ok (.goto 11, 3) := by decide +kernel
theorem dL_about_15 : decode cL_about 15 = .ok (.astore 5, 2) := by decide +kernel
theorem dL_about_17 : decode cL_about 17 = .ok (.iconst 1, 1) := by decide +kernel
theorem dL_about_18 : decode cL_about 18 = .ok (.ireturn, 1) := by decide +kernel
theorem dL_about_19 : decode cL_about 19 = .ok (.astore 5, 2) := by decide +kernel
theorem dL_about_21 : decode cL_about 21 = .ok (.iconst 2, 1) := by decide +kernel
theorem dL_about_22 : decode cL_about 22 = .ok (.ireturn, 1) := by decide +kernel
theorem dL_about_23 : decode cL_about 23 = .ok (.iconst 0, 1) := by decide +kernel
theorem dL_about_24 : decode cL_about 24 = .ok (.ireturn, 1) := by decide +kernel
theorem dL_ahead_0 : decode cL_ahead 0 = .ok (.aload 4, 2) := by decide +kernel
theorem dL_ahead_2 : decode cL_ahead 2 = .ok (.iconst 0, 1) := by decide +kernel
theorem dL_ahead_3 : decode cL_ahead 3 = .ok (.aload_n 0, 1) := by decide +kernel
theorem dL_ahead_4 : decode cL_ahead 4 = .ok (.iload_n 1, 1) := by decide +kernel
theorem dL_ahead_5 : decode cL_ahead 5 = .ok (.iload_n 2, 1) := by decide +kernel
theorem dL_ahead_6 : decode cL_ahead 6 = .ok (.iload_n 3, 1) := by decide +kernel
theorem dL_ahead_7 : decode cL_ahead 7 = .ok (.invokevirtual 83, 3) := by decide +kernel
theorem dL_ahead_10 : decode cL_ahead 10 = .ok (.i2l, 1) := by decide +kernel
theorem dL_ahead_11 : decode cL_ahead 11 = .ok (.lastore, 1) := by decide +kernel
theorem dL_ahead_12 : decode cL_ahead 12 = .ok (.goto 15, 3) := by decide +kernel
theorem dL_ahead_15 : decode cL_ahead 15 = .ok (.astore 5, 2) := by decide +kernel
theorem dL_ahead_17 : decode cL_ahead 17 = .ok (.iconst 1, 1) := by decide +kernel
theorem dL_ahead_18 : decode cL_ahead 18 = .ok (.ireturn, 1) := by decide +kernel
theorem dL_ahead_19 : decode cL_ahead 19 = .ok (.astore 5, 2) := by decide +kernel
theorem dL_ahead_21 : decode cL_ahead 21 = .ok (.iconst 2, 1) := by decide +kernel
theorem dL_ahead_22 : decode cL_ahead 22 = .ok (.ireturn, 1) := by decide +kernel
theorem dL_ahead_23 : decode cL_ahead 23 = .ok (.astore 5, 2) := by decide +kernel
theorem dL_ahead_25 : decode cL_ahead 25 = .ok (.iconst 3, 1) := by decide +kernel
theorem dL_ahead_26 : decode cL_ahead 26 = .ok (.ireturn, 1) := by decide +kernel
theorem dL_ahead_27 : decode cL_ahead 27 = .ok (.iconst 0, 1) := by decide +kernel
theorem dL_ahead_28 : decode cL_ahead 28 = .ok (.ireturn, 1) := by decide +kernel
theorem dL_last_0 : decode cL_last 0 = .ok (.aload_n 3, 1) := by decide +kernel
theorem dL_last_1 : decode cL_last 1 = .ok (.iconst 0, 1) := by decide +kernel
theorem dL_last_2 : decode cL_last 2 = .ok (.aload_n 0, 1) := by decide +kernel
theorem dL_last_3 : decode cL_last 3 = .ok (.iload_n 1, 1) := by decide +kernel
theorem dL_last_4 : decode cL_last 4 = .ok (.iload_n 2, 1) := by decide +kernel
theorem dL_last_5 : decode cL_last 5 = .ok (.invokevirtual 86, 3) := by decide +kernel
theorem dL_last_8 : decode cL_last 8 = .ok (.i2l, 1) := by decide +kernel
theorem dL_last_9 : decode cL_last 9 = .ok (.lastore, 1) := by decide +kernel
theorem dL_last_10 : decode cL_last 10 = .ok (.goto 7, 3) := by decide +kernel
theorem dL_last_13 : decode cL_last 13 = .ok (.astore 4, 2) := by decide +kernel
theorem dL_last_15 : decode cL_last 15 = .ok (.iconst 1, 1) := by decide +kernel
theorem dL_last_16 : decode cL_last 16 = .ok (.ireturn, 1) := by decide +kernel
theorem dL_last_17 : decode cL_last 17 = .ok (.iconst 0, 1) := by decide +kernel
theorem dL_last_18 : decode cL_last 18 = .ok (.ireturn, 1) := by decide +kernel
theorem dL_comes_0 : decode cL_comes 0 = .ok (.aload_n 2, 1) := by decide +kernel
theorem dL_comes_1 : decode cL_comes 1 = .ok (.iconst 0, 1) := by decide +kernel
theorem dL_comes_2 : decode cL_comes 2 = .ok (.aload_n 0, 1) := by decide +kernel
theorem dL_comes_3 : decode cL_comes 3 = .ok (.iload_n 1, 1) := by decide +kernel
theorem dL_comes_4 : decode cL_comes 4 = .ok (.invokevirtual 89, 3) := by decide +kernel
theorem dL_comes_7 : decode cL_comes 7 = .ok (.i2l, 1) := by decide +kernel
theorem dL_comes_8 : decode cL_comes 8 = .ok (.lastore, 1) := by decide +kernel
theorem dL_comes_9 : decode cL_comes 9 = .ok (.goto 6, 3) := by decide +kernel
theorem dL_comes_12 : decode cL_comes 12 = .ok (.astore_n 3, 1) := by decide +kernel
theorem dL_comes_13 : decode cL_comes 13 = .ok (.iconst 1, 1) := by decide +kernel
theorem dL_comes_14 : decode cL_comes 14 = .ok (.ireturn, 1) := by decide +kernel
theorem dL_comes_15 : decode cL_comes 15 = .ok (.iconst 0, 1) := by decide +kernel
theorem dL_comes_16 : decode cL_comes 16 = .ok (.ireturn, 1) := by decide +kernel
theorem dL_steps_0 : decode cL_steps 0 = .ok (.aload_n 2, 1) := by decide +kernel
theorem dL_steps_1 : decode cL_steps 1 = .ok (.iconst 0, 1) := by decide +kernel
theorem dL_steps_2 : decode cL_steps 2 = .ok (.aload_n 0, 1) := by decide +kernel
theorem dL_steps_3 : decode cL_steps 3 = .ok (.iload_n 1, 1) := by decide +kernel
theorem dL_steps_4 : decode cL_steps 4 = .ok (.invokevirtual 92, 3) := by decide +kernel
theorem dL_steps_7 : decode cL_steps 7 = .ok (.i2l, 1) := by decide +kernel
theorem dL_steps_8 : decode cL_steps 8 = .ok (.lastore, 1) := by decide +kernel
theorem dL_steps_9 : decode cL_steps 9 = .ok (.goto 6, 3) := by decide +kernel
theorem dL_steps_12 : decode cL_steps 12 = .ok (.astore_n 3, 1) := by decide +kernel
theorem dL_steps_13 : decode cL_steps 13 = .ok (.iconst 1, 1) := by decide +kernel
theorem dL_steps_14 : decode cL_steps 14 = .ok (.ireturn, 1) := by decide +kernel
theorem dL_steps_15 : decode cL_steps 15 = .ok (.iconst 0, 1) := by decide +kernel
theorem dL_steps_16 : decode cL_steps 16 = .ok (.ireturn, 1) := by decide +kernel
theorem dL_trial_0 : decode cL_trial 0 = .ok (.aload_n 2, 1) := by decide +kernel
theorem dL_trial_1 : decode cL_trial 1 = .ok (.iconst 0, 1) := by decide +kernel
theorem dL_trial_2 : decode cL_trial 2 = .ok (.aload_n 0, 1) := by decide +kernel
theorem dL_trial_3 : decode cL_trial 3 = .ok (.iload_n 1, 1) := by decide +kernel
theorem dL_trial_4 : decode cL_trial 4 = .ok (.invokevirtual 95, 3) := by decide +kernel
theorem dL_trial_7 : decode cL_trial 7 = .ok (.i2l, 1) := by decide +kernel
theorem dL_trial_8 : decode cL_trial 8 = .ok (.lastore, 1) := by decide +kernel
theorem dL_trial_9 : decode cL_trial 9 = .ok (.goto 6, 3) := by decide +kernel
theorem dL_trial_12 : decode cL_trial 12 = .ok (.astore_n 3, 1) := by decide +kernel
theorem dL_trial_13 : decode cL_trial 13 = .ok (.iconst 1, 1) := by decide +kernel
theorem dL_trial_14 : decode cL_trial 14 = .ok (.ireturn, 1) := by decide +kernel
theorem dL_trial_15 : decode cL_trial 15 = .ok (.iconst 0, 1) := by decide +kernel
theorem dL_trial_16 : decode cL_trial 16 = .ok (.ireturn, 1) := by decide +kernel
theorem dL_span_0 : decode cL_span 0 = .ok (.aload_n 3, 1) := by decide +kernel
theorem dL_span_1 : decode cL_span 1 = .ok (.iconst 0, 1) := by decide +kernel
theorem dL_span_2 : decode cL_span 2 = .ok (.aload_n 0, 1) := by decide +kernel
theorem dL_span_3 : decode cL_span 3 = .ok (.iload_n 1, 1) := by decide +kernel
theorem dL_span_4 : decode cL_span 4 = .ok (.iload_n 2, 1) := by decide +kernel
theorem dL_span_5 : decode cL_span 5 = .ok (.invokevirtual 98, 3) := by decide +kernel
theorem dL_span_8 : decode cL_span 8 = .ok (.i2l, 1) := by decide +kernel
theorem dL_span_9 : decode cL_span 9 = .ok (.lastore, 1) := by decide +kernel
theorem dL_span_10 : decode cL_span 10 = .ok (.goto 7, 3) := by decide +kernel
theorem dL_span_13 : decode cL_span 13 = .ok (.astore 4, 2) := by decide +kernel
theorem dL_span_15 : decode cL_span 15 = .ok (.iconst 1, 1) := by decide +kernel
theorem dL_span_16 : decode cL_span 16 = .ok (.ireturn, 1) := by decide +kernel
theorem dL_span_17 : decode cL_span 17 = .ok (.iconst 0, 1) := by decide +kernel
theorem dL_span_18 : decode cL_span 18 = .ok (.ireturn, 1) := by decide +kernel
theorem dL_led_0 : decode cL_led 0 = .ok (.aload_n 3, 1) := by decide +kernel
theorem dL_led_1 : decode cL_led 1 = .ok (.iconst 0, 1) := by decide +kernel
theorem dL_led_2 : decode cL_led 2 = .ok (.aload_n 0, 1) := by decide +kernel
theorem dL_led_3 : decode cL_led 3 = .ok (.iload_n 1, 1) := by decide +kernel
theorem dL_led_4 : decode cL_led 4 = .ok (.iload_n 2, 1) := by decide +kernel
theorem dL_led_5 : decode cL_led 5 = .ok (.invokevirtual 101, 3) := by decide +kernel
theorem dL_led_8 : decode cL_led 8 = .ok (.i2l, 1) := by decide +kernel
theorem dL_led_9 : decode cL_led 9 = .ok (.lastore, 1) := by decide +kernel
theorem dL_led_10 : decode cL_led 10 = .ok (.goto 7, 3) := by decide +kernel
theorem dL_led_13 : decode cL_led 13 = .ok (.astore 4, 2) := by decide +kernel
theorem dL_led_15 : decode cL_led 15 = .ok (.iconst 1, 1) := by decide +kernel
theorem dL_led_16 : decode cL_led 16 = .ok (.ireturn, 1) := by decide +kernel
theorem dL_led_17 : decode cL_led 17 = .ok (.iconst 0, 1) := by decide +kernel
theorem dL_led_18 : decode cL_led 18 = .ok (.ireturn, 1) := by decide +kernel
theorem dL_log_0 : decode cL_log 0 = .ok (.aload_n 3, 1) := by decide +kernel
theorem dL_log_1 : decode cL_log 1 = .ok (.iconst 0, 1) := by decide +kernel
theorem dL_log_2 : decode cL_log 2 = .ok (.aload_n 0, 1) := by decide +kernel
theorem dL_log_3 : decode cL_log 3 = .ok (.iload_n 1, 1) := by decide +kernel
theorem dL_log_4 : decode cL_log 4 = .ok (.iload_n 2, 1) := by decide +kernel
theorem dL_log_5 : decode cL_log 5 = .ok (.invokevirtual 104, 3) := by decide +kernel
theorem dL_log_8 : decode cL_log 8 = .ok (.i2l, 1) := by decide +kernel
theorem dL_log_9 : decode cL_log 9 = .ok (.lastore, 1) := by decide +kernel
theorem dL_log_10 : decode cL_log 10 = .ok (.goto 7, 3) := by decide +kernel
theorem dL_log_13 : decode cL_log 13 = .ok (.astore 4, 2) := by decide +kernel
theorem dL_log_15 : decode cL_log 15 = .ok (.iconst 1, 1) := by decide +kernel
theorem dL_log_16 : decode cL_log 16 = .ok (.ireturn, 1) := by decide +kernel
theorem dL_log_17 : decode cL_log 17 = .ok (.iconst 0, 1) := by decide +kernel
theorem dL_log_18 : decode cL_log 18 = .ok (.ireturn, 1) := by decide +kernel
set_option maxRecDepth 100000 in
theorem decG_0 : ∀ q ∈ ([(0, (.new 8, 3)), (3, (.dup, 1)), (4, (.invokespecial 107, 3)), (7, (.astore_n 1, 1)), (8, (.new 108, 3)), (11, (.dup, 1)), (12, (.invokespecial 110, 3)), (15, (.astore_n 2, 1)), (16, (.iconst 1, 1)), (17, (.newarray .long, 2)), (19, (.astore_n 3, 1)), (20, (.iconst 0, 1)), (21, (.istore 4, 2)), (23, (.iload 4, 2)), (25, (.aload_n 0, 1)), (26, (.arraylength, 1)), (27, (.bipush 6, 2)), (29, (.isub, 1)), (30, (.if_icmp .gt 2367, 3)), (33, (.aload_n 0, 1)), (34, (.iload 4, 2)), (36, (.iaload, 1)), (37, (.bipush 63, 2)), (39, (.iand, 1)), (40, (.tableswitch 2351 0 41 #[184, 257, 282, 326, 370, 383, 451, 519, 587, 655, 723, 814, 882, 985, 1033, 1089, 1102, 1115, 1128, 1184, 1197, 1238, 1322, 1335, 1348, 1416, 1500, 1572, 1616, 1696, 1776, 1860, 1916, 1972, 2028, 2112, 2196, 2264, 2289, 2302, 2313, 2326], 184)), (224, (.aload_n 1, 1)), (225, (.aload_n 0, 1)), (226, (.iload 4, 2)), (228, (.iconst 1, 1)), (229, (.iadd, 1)), (230, (.iaload, 1)), (231, (.aload_n 0, 1)), (232, (.iload 4, 2)), (234, (.iconst 2, 1)), (235, (.iadd, 1)), (236, (.iaload, 1)), (237, (.aload_n 0, 1)), (238, (.iload 4, 2)), (240, (.iconst 3, 1)), (241, (.iadd, 1))] : List (Nat × (Instr × Nat))), decode cL_law_ q.1 = .ok q.2 := by decide +kernel
theorem dL_law__0 : decode cL_law_ 0 = .ok (.new 8, 3) := decG_0 (0, (.new 8, 3)) (List.mem_of_getElem? (i := 0) rfl)
theorem dL_law__3 : decode cL_law_ 3 = .ok (.dup, 1) := decG_0 (3, (.dup, 1)) (List.mem_of_getElem? (i := 1) rfl)
theorem dL_law__4 : decode cL_law_ 4 = .ok (.invokespecial 107, 3) := decG_0 (4, (.invokespecial 107, 3)) (List.mem_of_getElem? (i := 2) rfl)
theorem dL_law__7 : decode cL_law_ 7 = .ok (.astore_n 1, 1) := decG_0 (7, (.astore_n 1, 1)) (List.mem_of_getElem? (i := 3) rfl)
theorem dL_law__8 : decode cL_law_ 8 = .ok (.new 108, 3) := decG_0 (8, (.new 108, 3)) (List.mem_of_getElem? (i := 4) rfl)
theorem dL_law__11 : decode cL_law_ 11 = .ok (.dup, 1) := decG_0 (11, (.dup, 1)) (List.mem_of_getElem? (i := 5) rfl)
theorem dL_law__12 : decode cL_law_ 12 = .ok (.invokespecial 110, 3) := decG_0 (12, (.invokespecial 110, 3)) (List.mem_of_getElem? (i := 6) rfl)
theorem dL_law__15 : decode cL_law_ 15 = .ok (.astore_n 2, 1) := decG_0 (15, (.astore_n 2, 1)) (List.mem_of_getElem? (i := 7) rfl)
theorem dL_law__16 : decode cL_law_ 16 = .ok (.iconst 1, 1) := decG_0 (16, (.iconst 1, 1)) (List.mem_of_getElem? (i := 8) rfl)
theorem dL_law__17 : decode cL_law_ 17 = .ok (.newarray .long, 2) := decG_0 (17, (.newarray .long, 2)) (List.mem_of_getElem? (i := 9) rfl)
theorem dL_law__19 : decode cL_law_ 19 = .ok (.astore_n 3, 1) := decG_0 (19, (.astore_n 3, 1)) (List.mem_of_getElem? (i := 10) rfl)
theorem dL_law__20 : decode cL_law_ 20 = .ok (.iconst 0, 1) := decG_0 (20, (.iconst 0, 1)) (List.mem_of_getElem? (i := 11) rfl)
theorem dL_law__21 : decode cL_law_ 21 = .ok (.istore 4, 2) := decG_0 (21, (.istore 4, 2)) (List.mem_of_getElem? (i := 12) rfl)
theorem dL_law__23 : decode cL_law_ 23 = .ok (.iload 4, 2) := decG_0 (23, (.iload 4, 2)) (List.mem_of_getElem? (i := 13) rfl)
theorem dL_law__25 : decode cL_law_ 25 = .ok (.aload_n 0, 1) := decG_0 (25, (.aload_n 0, 1)) (List.mem_of_getElem? (i := 14) rfl)
theorem dL_law__26 : decode cL_law_ 26 = .ok (.arraylength, 1) := decG_0 (26, (.arraylength, 1)) (List.mem_of_getElem? (i := 15) rfl)
theorem dL_law__27 : decode cL_law_ 27 = .ok (.bipush 6, 2) := decG_0 (27, (.bipush 6, 2)) (List.mem_of_getElem? (i := 16) rfl)
theorem dL_law__29 : decode cL_law_ 29 = .ok (.isub, 1) := decG_0 (29, (.isub, 1)) (List.mem_of_getElem? (i := 17) rfl)
theorem dL_law__30 : decode cL_law_ 30 = .ok (.if_icmp .gt 2367, 3) := decG_0 (30, (.if_icmp .gt 2367, 3)) (List.mem_of_getElem? (i := 18) rfl)
theorem dL_law__33 : decode cL_law_ 33 = .ok (.aload_n 0, 1) := decG_0 (33, (.aload_n 0, 1)) (List.mem_of_getElem? (i := 19) rfl)
theorem dL_law__34 : decode cL_law_ 34 = .ok (.iload 4, 2) := decG_0 (34, (.iload 4, 2)) (List.mem_of_getElem? (i := 20) rfl)
theorem dL_law__36 : decode cL_law_ 36 = .ok (.iaload, 1) := decG_0 (36, (.iaload, 1)) (List.mem_of_getElem? (i := 21) rfl)
theorem dL_law__37 : decode cL_law_ 37 = .ok (.bipush 63, 2) := decG_0 (37, (.bipush 63, 2)) (List.mem_of_getElem? (i := 22) rfl)
theorem dL_law__39 : decode cL_law_ 39 = .ok (.iand, 1) := decG_0 (39, (.iand, 1)) (List.mem_of_getElem? (i := 23) rfl)
theorem dL_law__40 : decode cL_law_ 40 = .ok (.tableswitch 2351 0 41 #[184, 257, 282, 326, 370, 383, 451, 519, 587, 655, 723, 814, 882, 985, 1033, 1089, 1102, 1115, 1128, 1184, 1197, 1238, 1322, 1335, 1348, 1416, 1500, 1572, 1616, 1696, 1776, 1860, 1916, 1972, 2028, 2112, 2196, 2264, 2289, 2302, 2313, 2326], 184) := decG_0 (40, (.tableswitch 2351 0 41 #[184, 257, 282, 326, 370, 383, 451, 519, 587, 655, 723, 814, 882, 985, 1033, 1089, 1102, 1115, 1128, 1184, 1197, 1238, 1322, 1335, 1348, 1416, 1500, 1572, 1616, 1696, 1776, 1860, 1916, 1972, 2028, 2112, 2196, 2264, 2289, 2302, 2313, 2326], 184)) (List.mem_of_getElem? (i := 24) rfl)
theorem dL_law__224 : decode cL_law_ 224 = .ok (.aload_n 1, 1) := decG_0 (224, (.aload_n 1, 1)) (List.mem_of_getElem? (i := 25) rfl)
theorem dL_law__225 : decode cL_law_ 225 = .ok (.aload_n 0, 1) := decG_0 (225, (.aload_n 0, 1)) (List.mem_of_getElem? (i := 26) rfl)
theorem dL_law__226 : decode cL_law_ 226 = .ok (.iload 4, 2) := decG_0 (226, (.iload 4, 2)) (List.mem_of_getElem? (i := 27) rfl)
theorem dL_law__228 : decode cL_law_ 228 = .ok (.iconst 1, 1) := decG_0 (228, (.iconst 1, 1)) (List.mem_of_getElem? (i := 28) rfl)
theorem dL_law__229 : decode cL_law_ 229 = .ok (.iadd, 1) := decG_0 (229, (.iadd, 1)) (List.mem_of_getElem? (i := 29) rfl)
theorem dL_law__230 : decode cL_law_ 230 = .ok (.iaload, 1) := decG_0 (230, (.iaload, 1)) (List.mem_of_getElem? (i := 30) rfl)
theorem dL_law__231 : decode cL_law_ 231 = .ok (.aload_n 0, 1) := decG_0 (231, (.aload_n 0, 1)) (List.mem_of_getElem? (i := 31) rfl)
theorem dL_law__232 : decode cL_law_ 232 = .ok (.iload 4, 2) := decG_0 (232, (.iload 4, 2)) (List.mem_of_getElem? (i := 32) rfl)
theorem dL_law__234 : decode cL_law_ 234 = .ok (.iconst 2, 1) := decG_0 (234, (.iconst 2, 1)) (List.mem_of_getElem? (i := 33) rfl)
theorem dL_law__235 : decode cL_law_ 235 = .ok (.iadd, 1) := decG_0 (235, (.iadd, 1)) (List.mem_of_getElem? (i := 34) rfl)
theorem dL_law__236 : decode cL_law_ 236 = .ok (.iaload, 1) := decG_0 (236, (.iaload, 1)) (List.mem_of_getElem? (i := 35) rfl)
theorem dL_law__237 : decode cL_law_ 237 = .ok (.aload_n 0, 1) := decG_0 (237, (.aload_n 0, 1)) (List.mem_of_getElem? (i := 36) rfl)
theorem dL_law__238 : decode cL_law_ 238 = .ok (.iload 4, 2) := decG_0 (238, (.iload 4, 2)) (List.mem_of_getElem? (i := 37) rfl)
theorem dL_law__240 : decode cL_law_ 240 = .ok (.iconst 3, 1) := decG_0 (240, (.iconst 3, 1)) (List.mem_of_getElem? (i := 38) rfl)
theorem dL_law__241 : decode cL_law_ 241 = .ok (.iadd, 1) := decG_0 (241, (.iadd, 1)) (List.mem_of_getElem? (i := 39) rfl)
set_option maxRecDepth 100000 in
theorem decG_1 : ∀ q ∈ ([(242, (.iaload, 1)), (243, (.aload_n 0, 1)), (244, (.iload 4, 2)), (246, (.iconst 4, 1)), (247, (.iadd, 1)), (248, (.iaload, 1)), (249, (.aload_n 0, 1)), (250, (.iload 4, 2)), (252, (.iconst 5, 1)), (253, (.iadd, 1)), (254, (.iaload, 1)), (255, (.invokevirtual 111, 3)), (258, (.aload_n 2, 1)), (259, (.aload_n 0, 1)), (260, (.iload 4, 2)), (262, (.iconst 1, 1)), (263, (.iadd, 1)), (264, (.iaload, 1)), (265, (.aload_n 0, 1)), (266, (.iload 4, 2)), (268, (.iconst 2, 1)), (269, (.iadd, 1)), (270, (.iaload, 1)), (271, (.aload_n 0, 1)), (272, (.iload 4, 2)), (274, (.iconst 3, 1)), (275, (.iadd, 1)), (276, (.iaload, 1)), (277, (.aload_n 0, 1)), (278, (.iload 4, 2)), (280, (.iconst 4, 1)), (281, (.iadd, 1)), (282, (.iaload, 1)), (283, (.aload_n 0, 1)), (284, (.iload 4, 2)), (286, (.iconst 5, 1)), (287, (.iadd, 1)), (288, (.iaload, 1)), (289, (.invokevirtual 115, 3)), (292, (.if_icmp .eq 2099, 3))] : List (Nat × (Instr × Nat))), decode cL_law_ q.1 = .ok q.2 := by decide +kernel
theorem dL_law__242 : decode cL_law_ 242 = .ok (.iaload, 1) := decG_1 (242, (.iaload, 1)) (List.mem_of_getElem? (i := 0) rfl)
theorem dL_law__243 : decode cL_law_ 243 = .ok (.aload_n 0, 1) := decG_1 (243, (.aload_n 0, 1)) (List.mem_of_getElem? (i := 1) rfl)
theorem dL_law__244 : decode cL_law_ 244 = .ok (.iload 4, 2) := decG_1 (244, (.iload 4, 2)) (List.mem_of_getElem? (i := 2) rfl)
theorem dL_law__246 : decode cL_law_ 246 = .ok (.iconst 4, 1) := decG_1 (246, (.iconst 4, 1)) (List.mem_of_getElem? (i := 3) rfl)
theorem dL_law__247 : decode cL_law_ 247 = .ok (.iadd, 1) := decG_1 (247, (.iadd, 1)) (List.mem_of_getElem? (i := 4) rfl)
theorem dL_law__248 : decode cL_law_ 248 = .ok (.iaload, 1) := decG_1 (248, (.iaload, 1)) (List.mem_of_getElem? (i := 5) rfl)
theorem dL_law__249 : decode cL_law_ 249 = .ok (.aload_n 0, 1) := decG_1 (249, (.aload_n 0, 1)) (List.mem_of_getElem? (i := 6) rfl)
theorem dL_law__250 : decode cL_law_ 250 = .ok (.iload 4, 2) := decG_1 (250, (.iload 4, 2)) (List.mem_of_getElem? (i := 7) rfl)
theorem dL_law__252 : decode cL_law_ 252 = .ok (.iconst 5, 1) := decG_1 (252, (.iconst 5, 1)) (List.mem_of_getElem? (i := 8) rfl)
theorem dL_law__253 : decode cL_law_ 253 = .ok (.iadd, 1) := decG_1 (253, (.iadd, 1)) (List.mem_of_getElem? (i := 9) rfl)
theorem dL_law__254 : decode cL_law_ 254 = .ok (.iaload, 1) := decG_1 (254, (.iaload, 1)) (List.mem_of_getElem? (i := 10) rfl)
theorem dL_law__255 : decode cL_law_ 255 = .ok (.invokevirtual 111, 3) := decG_1 (255, (.invokevirtual 111, 3)) (List.mem_of_getElem? (i := 11) rfl)
theorem dL_law__258 : decode cL_law_ 258 = .ok (.aload_n 2, 1) := decG_1 (258, (.aload_n 2, 1)) (List.mem_of_getElem? (i := 12) rfl)
theorem dL_law__259 : decode cL_law_ 259 = .ok (.aload_n 0, 1) := decG_1 (259, (.aload_n 0, 1)) (List.mem_of_getElem? (i := 13) rfl)
theorem dL_law__260 : decode cL_law_ 260 = .ok (.iload 4, 2) := decG_1 (260, (.iload 4, 2)) (List.mem_of_getElem? (i := 14) rfl)
theorem dL_law__262 : decode cL_law_ 262 = .ok (.iconst 1, 1) := decG_1 (262, (.iconst 1, 1)) (List.mem_of_getElem? (i := 15) rfl)
theorem dL_law__263 : decode cL_law_ 263 = .ok (.iadd, 1) := decG_1 (263, (.iadd, 1)) (List.mem_of_getElem? (i := 16) rfl)
theorem dL_law__264 : decode cL_law_ 264 = .ok (.iaload, 1) := decG_1 (264, (.iaload, 1)) (List.mem_of_getElem? (i := 17) rfl)
theorem dL_law__265 : decode cL_law_ 265 = .ok (.aload_n 0, 1) := decG_1 (265, (.aload_n 0, 1)) (List.mem_of_getElem? (i := 18) rfl)
theorem dL_law__266 : decode cL_law_ 266 = .ok (.iload 4, 2) := decG_1 (266, (.iload 4, 2)) (List.mem_of_getElem? (i := 19) rfl)
theorem dL_law__268 : decode cL_law_ 268 = .ok (.iconst 2, 1) := decG_1 (268, (.iconst 2, 1)) (List.mem_of_getElem? (i := 20) rfl)
theorem dL_law__269 : decode cL_law_ 269 = .ok (.iadd, 1) := decG_1 (269, (.iadd, 1)) (List.mem_of_getElem? (i := 21) rfl)
theorem dL_law__270 : decode cL_law_ 270 = .ok (.iaload, 1) := decG_1 (270, (.iaload, 1)) (List.mem_of_getElem? (i := 22) rfl)
theorem dL_law__271 : decode cL_law_ 271 = .ok (.aload_n 0, 1) := decG_1 (271, (.aload_n 0, 1)) (List.mem_of_getElem? (i := 23) rfl)
theorem dL_law__272 : decode cL_law_ 272 = .ok (.iload 4, 2) := decG_1 (272, (.iload 4, 2)) (List.mem_of_getElem? (i := 24) rfl)
theorem dL_law__274 : decode cL_law_ 274 = .ok (.iconst 3, 1) := decG_1 (274, (.iconst 3, 1)) (List.mem_of_getElem? (i := 25) rfl)
theorem dL_law__275 : decode cL_law_ 275 = .ok (.iadd, 1) := decG_1 (275, (.iadd, 1)) (List.mem_of_getElem? (i := 26) rfl)
theorem dL_law__276 : decode cL_law_ 276 = .ok (.iaload, 1) := decG_1 (276, (.iaload, 1)) (List.mem_of_getElem? (i := 27) rfl)
theorem dL_law__277 : decode cL_law_ 277 = .ok (.aload_n 0, 1) := decG_1 (277, (.aload_n 0, 1)) (List.mem_of_getElem? (i := 28) rfl)
theorem dL_law__278 : decode cL_law_ 278 = .ok (.iload 4, 2) := decG_1 (278, (.iload 4, 2)) (List.mem_of_getElem? (i := 29) rfl)
theorem dL_law__280 : decode cL_law_ 280 = .ok (.iconst 4, 1) := decG_1 (280, (.iconst 4, 1)) (List.mem_of_getElem? (i := 30) rfl)
theorem dL_law__281 : decode cL_law_ 281 = .ok (.iadd, 1) := decG_1 (281, (.iadd, 1)) (List.mem_of_getElem? (i := 31) rfl)
theorem dL_law__282 : decode cL_law_ 282 = .ok (.iaload, 1) := decG_1 (282, (.iaload, 1)) (List.mem_of_getElem? (i := 32) rfl)
theorem dL_law__283 : decode cL_law_ 283 = .ok (.aload_n 0, 1) := decG_1 (283, (.aload_n 0, 1)) (List.mem_of_getElem? (i := 33) rfl)
theorem dL_law__284 : decode cL_law_ 284 = .ok (.iload 4, 2) := decG_1 (284, (.iload 4, 2)) (List.mem_of_getElem? (i := 34) rfl)
theorem dL_law__286 : decode cL_law_ 286 = .ok (.iconst 5, 1) := decG_1 (286, (.iconst 5, 1)) (List.mem_of_getElem? (i := 35) rfl)
theorem dL_law__287 : decode cL_law_ 287 = .ok (.iadd, 1) := decG_1 (287, (.iadd, 1)) (List.mem_of_getElem? (i := 36) rfl)
theorem dL_law__288 : decode cL_law_ 288 = .ok (.iaload, 1) := decG_1 (288, (.iaload, 1)) (List.mem_of_getElem? (i := 37) rfl)
theorem dL_law__289 : decode cL_law_ 289 = .ok (.invokevirtual 115, 3) := decG_1 (289, (.invokevirtual 115, 3)) (List.mem_of_getElem? (i := 38) rfl)
theorem dL_law__292 : decode cL_law_ 292 = .ok (.if_icmp .eq 2099, 3) := decG_1 (292, (.if_icmp .eq 2099, 3)) (List.mem_of_getElem? (i := 39) rfl)
set_option maxRecDepth 100000 in
theorem decG_2 : ∀ q ∈ ([(295, (.iconst 0, 1)), (296, (.ireturn, 1)), (297, (.aload_n 1, 1)), (298, (.aload_n 0, 1)), (299, (.iload 4, 2)), (301, (.iconst 1, 1)), (302, (.iadd, 1)), (303, (.iaload, 1)), (304, (.invokevirtual 116, 3)), (307, (.aload_n 2, 1)), (308, (.aload_n 0, 1)), (309, (.iload 4, 2)), (311, (.iconst 1, 1)), (312, (.iadd, 1)), (313, (.iaload, 1)), (314, (.invokevirtual 120, 3)), (317, (.if_icmp .eq 2074, 3)), (320, (.iconst 0, 1)), (321, (.ireturn, 1)), (322, (.aload_n 1, 1)), (323, (.aload_n 3, 1)), (324, (.invokestatic 121, 3)), (327, (.istore 5, 2)), (329, (.aload_n 2, 1)), (330, (.invokevirtual 126, 3)), (333, (.istore 6, 2)), (335, (.aload_n 2, 1)), (336, (.invokevirtual 127, 3)), (339, (.iload 5, 2)), (341, (.if_icmp .eq 5, 3)), (344, (.iconst 0, 1)), (345, (.ireturn, 1)), (346, (.iload 5, 2)), (348, (.ifCond .ne 15, 3)), (351, (.aload_n 3, 1)), (352, (.iconst 0, 1)), (353, (.laload, 1)), (354, (.iload 6, 2)), (356, (.i2l, 1)), (357, (.lcmp, 1))] : List (Nat × (Instr × Nat))), decode cL_law_ q.1 = .ok q.2 := by decide +kernel
theorem dL_law__295 : decode cL_law_ 295 = .ok (.iconst 0, 1) := decG_2 (295, (.iconst 0, 1)) (List.mem_of_getElem? (i := 0) rfl)
theorem dL_law__296 : decode cL_law_ 296 = .ok (.ireturn, 1) := decG_2 (296, (.ireturn, 1)) (List.mem_of_getElem? (i := 1) rfl)
theorem dL_law__297 : decode cL_law_ 297 = .ok (.aload_n 1, 1) := decG_2 (297, (.aload_n 1, 1)) (List.mem_of_getElem? (i := 2) rfl)
theorem dL_law__298 : decode cL_law_ 298 = .ok (.aload_n 0, 1) := decG_2 (298, (.aload_n 0, 1)) (List.mem_of_getElem? (i := 3) rfl)
theorem dL_law__299 : decode cL_law_ 299 = .ok (.iload 4, 2) := decG_2 (299, (.iload 4, 2)) (List.mem_of_getElem? (i := 4) rfl)
theorem dL_law__301 : decode cL_law_ 301 = .ok (.iconst 1, 1) := decG_2 (301, (.iconst 1, 1)) (List.mem_of_getElem? (i := 5) rfl)
theorem dL_law__302 : decode cL_law_ 302 = .ok (.iadd, 1) := decG_2 (302, (.iadd, 1)) (List.mem_of_getElem? (i := 6) rfl)
theorem dL_law__303 : decode cL_law_ 303 = .ok (.iaload, 1) := decG_2 (303, (.iaload, 1)) (List.mem_of_getElem? (i := 7) rfl)
theorem dL_law__304 : decode cL_law_ 304 = .ok (.invokevirtual 116, 3) := decG_2 (304, (.invokevirtual 116, 3)) (List.mem_of_getElem? (i := 8) rfl)
theorem dL_law__307 : decode cL_law_ 307 = .ok (.aload_n 2, 1) := decG_2 (307, (.aload_n 2, 1)) (List.mem_of_getElem? (i := 9) rfl)
theorem dL_law__308 : decode cL_law_ 308 = .ok (.aload_n 0, 1) := decG_2 (308, (.aload_n 0, 1)) (List.mem_of_getElem? (i := 10) rfl)
theorem dL_law__309 : decode cL_law_ 309 = .ok (.iload 4, 2) := decG_2 (309, (.iload 4, 2)) (List.mem_of_getElem? (i := 11) rfl)
theorem dL_law__311 : decode cL_law_ 311 = .ok (.iconst 1, 1) := decG_2 (311, (.iconst 1, 1)) (List.mem_of_getElem? (i := 12) rfl)
theorem dL_law__312 : decode cL_law_ 312 = .ok (.iadd, 1) := decG_2 (312, (.iadd, 1)) (List.mem_of_getElem? (i := 13) rfl)
theorem dL_law__313 : decode cL_law_ 313 = .ok (.iaload, 1) := decG_2 (313, (.iaload, 1)) (List.mem_of_getElem? (i := 14) rfl)
theorem dL_law__314 : decode cL_law_ 314 = .ok (.invokevirtual 120, 3) := decG_2 (314, (.invokevirtual 120, 3)) (List.mem_of_getElem? (i := 15) rfl)
theorem dL_law__317 : decode cL_law_ 317 = .ok (.if_icmp .eq 2074, 3) := decG_2 (317, (.if_icmp .eq 2074, 3)) (List.mem_of_getElem? (i := 16) rfl)
theorem dL_law__320 : decode cL_law_ 320 = .ok (.iconst 0, 1) := decG_2 (320, (.iconst 0, 1)) (List.mem_of_getElem? (i := 17) rfl)
theorem dL_law__321 : decode cL_law_ 321 = .ok (.ireturn, 1) := decG_2 (321, (.ireturn, 1)) (List.mem_of_getElem? (i := 18) rfl)
theorem dL_law__322 : decode cL_law_ 322 = .ok (.aload_n 1, 1) := decG_2 (322, (.aload_n 1, 1)) (List.mem_of_getElem? (i := 19) rfl)
theorem dL_law__323 : decode cL_law_ 323 = .ok (.aload_n 3, 1) := decG_2 (323, (.aload_n 3, 1)) (List.mem_of_getElem? (i := 20) rfl)
theorem dL_law__324 : decode cL_law_ 324 = .ok (.invokestatic 121, 3) := decG_2 (324, (.invokestatic 121, 3)) (List.mem_of_getElem? (i := 21) rfl)
theorem dL_law__327 : decode cL_law_ 327 = .ok (.istore 5, 2) := decG_2 (327, (.istore 5, 2)) (List.mem_of_getElem? (i := 22) rfl)
theorem dL_law__329 : decode cL_law_ 329 = .ok (.aload_n 2, 1) := decG_2 (329, (.aload_n 2, 1)) (List.mem_of_getElem? (i := 23) rfl)
theorem dL_law__330 : decode cL_law_ 330 = .ok (.invokevirtual 126, 3) := decG_2 (330, (.invokevirtual 126, 3)) (List.mem_of_getElem? (i := 24) rfl)
theorem dL_law__333 : decode cL_law_ 333 = .ok (.istore 6, 2) := decG_2 (333, (.istore 6, 2)) (List.mem_of_getElem? (i := 25) rfl)
theorem dL_law__335 : decode cL_law_ 335 = .ok (.aload_n 2, 1) := decG_2 (335, (.aload_n 2, 1)) (List.mem_of_getElem? (i := 26) rfl)
theorem dL_law__336 : decode cL_law_ 336 = .ok (.invokevirtual 127, 3) := decG_2 (336, (.invokevirtual 127, 3)) (List.mem_of_getElem? (i := 27) rfl)
theorem dL_law__339 : decode cL_law_ 339 = .ok (.iload 5, 2) := decG_2 (339, (.iload 5, 2)) (List.mem_of_getElem? (i := 28) rfl)
theorem dL_law__341 : decode cL_law_ 341 = .ok (.if_icmp .eq 5, 3) := decG_2 (341, (.if_icmp .eq 5, 3)) (List.mem_of_getElem? (i := 29) rfl)
theorem dL_law__344 : decode cL_law_ 344 = .ok (.iconst 0, 1) := decG_2 (344, (.iconst 0, 1)) (List.mem_of_getElem? (i := 30) rfl)
theorem dL_law__345 : decode cL_law_ 345 = .ok (.ireturn, 1) := decG_2 (345, (.ireturn, 1)) (List.mem_of_getElem? (i := 31) rfl)
theorem dL_law__346 : decode cL_law_ 346 = .ok (.iload 5, 2) := decG_2 (346, (.iload 5, 2)) (List.mem_of_getElem? (i := 32) rfl)
theorem dL_law__348 : decode cL_law_ 348 = .ok (.ifCond .ne 15, 3) := decG_2 (348, (.ifCond .ne 15, 3)) (List.mem_of_getElem? (i := 33) rfl)
theorem dL_law__351 : decode cL_law_ 351 = .ok (.aload_n 3, 1) := decG_2 (351, (.aload_n 3, 1)) (List.mem_of_getElem? (i := 34) rfl)
theorem dL_law__352 : decode cL_law_ 352 = .ok (.iconst 0, 1) := decG_2 (352, (.iconst 0, 1)) (List.mem_of_getElem? (i := 35) rfl)
theorem dL_law__353 : decode cL_law_ 353 = .ok (.laload, 1) := decG_2 (353, (.laload, 1)) (List.mem_of_getElem? (i := 36) rfl)
theorem dL_law__354 : decode cL_law_ 354 = .ok (.iload 6, 2) := decG_2 (354, (.iload 6, 2)) (List.mem_of_getElem? (i := 37) rfl)
theorem dL_law__356 : decode cL_law_ 356 = .ok (.i2l, 1) := decG_2 (356, (.i2l, 1)) (List.mem_of_getElem? (i := 38) rfl)
theorem dL_law__357 : decode cL_law_ 357 = .ok (.lcmp, 1) := decG_2 (357, (.lcmp, 1)) (List.mem_of_getElem? (i := 39) rfl)
set_option maxRecDepth 100000 in
theorem decG_3 : ∀ q ∈ ([(358, (.ifCond .eq 5, 3)), (361, (.iconst 0, 1)), (362, (.ireturn, 1)), (363, (.goto 2028, 3)), (366, (.aload_n 1, 1)), (367, (.aload_n 3, 1)), (368, (.invokestatic 130, 3)), (371, (.istore 5, 2)), (373, (.aload_n 2, 1)), (374, (.invokevirtual 132, 3)), (377, (.istore 6, 2)), (379, (.aload_n 2, 1)), (380, (.invokevirtual 127, 3)), (383, (.iload 5, 2)), (385, (.if_icmp .eq 5, 3)), (388, (.iconst 0, 1)), (389, (.ireturn, 1)), (390, (.iload 5, 2)), (392, (.ifCond .ne 15, 3)), (395, (.aload_n 3, 1)), (396, (.iconst 0, 1)), (397, (.laload, 1)), (398, (.iload 6, 2)), (400, (.i2l, 1)), (401, (.lcmp, 1)), (402, (.ifCond .eq 5, 3)), (405, (.iconst 0, 1)), (406, (.ireturn, 1)), (407, (.goto 1984, 3)), (410, (.aload_n 1, 1)), (411, (.invokevirtual 133, 3)), (414, (.aload_n 2, 1)), (415, (.invokevirtual 136, 3)), (418, (.if_icmp .eq 1973, 3)), (421, (.iconst 0, 1)), (422, (.ireturn, 1)), (423, (.aload_n 1, 1)), (424, (.aload_n 0, 1)), (425, (.iload 4, 2)), (427, (.iconst 1, 1))] : List (Nat × (Instr × Nat))), decode cL_law_ q.1 = .ok q.2 := by decide +kernel
theorem dL_law__358 : decode cL_law_ 358 = .ok (.ifCond .eq 5, 3) := decG_3 (358, (.ifCond .eq 5, 3)) (List.mem_of_getElem? (i := 0) rfl)
theorem dL_law__361 : decode cL_law_ 361 = .ok (.iconst 0, 1) := decG_3 (361, (.iconst 0, 1)) (List.mem_of_getElem? (i := 1) rfl)
theorem dL_law__362 : decode cL_law_ 362 = .ok (.ireturn, 1) := decG_3 (362, (.ireturn, 1)) (List.mem_of_getElem? (i := 2) rfl)
theorem dL_law__363 : decode cL_law_ 363 = .ok (.goto 2028, 3) := decG_3 (363, (.goto 2028, 3)) (List.mem_of_getElem? (i := 3) rfl)
theorem dL_law__366 : decode cL_law_ 366 = .ok (.aload_n 1, 1) := decG_3 (366, (.aload_n 1, 1)) (List.mem_of_getElem? (i := 4) rfl)
theorem dL_law__367 : decode cL_law_ 367 = .ok (.aload_n 3, 1) := decG_3 (367, (.aload_n 3, 1)) (List.mem_of_getElem? (i := 5) rfl)
theorem dL_law__368 : decode cL_law_ 368 = .ok (.invokestatic 130, 3) := decG_3 (368, (.invokestatic 130, 3)) (List.mem_of_getElem? (i := 6) rfl)
theorem dL_law__371 : decode cL_law_ 371 = .ok (.istore 5, 2) := decG_3 (371, (.istore 5, 2)) (List.mem_of_getElem? (i := 7) rfl)
theorem dL_law__373 : decode cL_law_ 373 = .ok (.aload_n 2, 1) := decG_3 (373, (.aload_n 2, 1)) (List.mem_of_getElem? (i := 8) rfl)
theorem dL_law__374 : decode cL_law_ 374 = .ok (.invokevirtual 132, 3) := decG_3 (374, (.invokevirtual 132, 3)) (List.mem_of_getElem? (i := 9) rfl)
theorem dL_law__377 : decode cL_law_ 377 = .ok (.istore 6, 2) := decG_3 (377, (.istore 6, 2)) (List.mem_of_getElem? (i := 10) rfl)
theorem dL_law__379 : decode cL_law_ 379 = .ok (.aload_n 2, 1) := decG_3 (379, (.aload_n 2, 1)) (List.mem_of_getElem? (i := 11) rfl)
theorem dL_law__380 : decode cL_law_ 380 = .ok (.invokevirtual 127, 3) := decG_3 (380, (.invokevirtual 127, 3)) (List.mem_of_getElem? (i := 12) rfl)
theorem dL_law__383 : decode cL_law_ 383 = .ok (.iload 5, 2) := decG_3 (383, (.iload 5, 2)) (List.mem_of_getElem? (i := 13) rfl)
theorem dL_law__385 : decode cL_law_ 385 = .ok (.if_icmp .eq 5, 3) := decG_3 (385, (.if_icmp .eq 5, 3)) (List.mem_of_getElem? (i := 14) rfl)
theorem dL_law__388 : decode cL_law_ 388 = .ok (.iconst 0, 1) := decG_3 (388, (.iconst 0, 1)) (List.mem_of_getElem? (i := 15) rfl)
theorem dL_law__389 : decode cL_law_ 389 = .ok (.ireturn, 1) := decG_3 (389, (.ireturn, 1)) (List.mem_of_getElem? (i := 16) rfl)
theorem dL_law__390 : decode cL_law_ 390 = .ok (.iload 5, 2) := decG_3 (390, (.iload 5, 2)) (List.mem_of_getElem? (i := 17) rfl)
theorem dL_law__392 : decode cL_law_ 392 = .ok (.ifCond .ne 15, 3) := decG_3 (392, (.ifCond .ne 15, 3)) (List.mem_of_getElem? (i := 18) rfl)
theorem dL_law__395 : decode cL_law_ 395 = .ok (.aload_n 3, 1) := decG_3 (395, (.aload_n 3, 1)) (List.mem_of_getElem? (i := 19) rfl)
theorem dL_law__396 : decode cL_law_ 396 = .ok (.iconst 0, 1) := decG_3 (396, (.iconst 0, 1)) (List.mem_of_getElem? (i := 20) rfl)
theorem dL_law__397 : decode cL_law_ 397 = .ok (.laload, 1) := decG_3 (397, (.laload, 1)) (List.mem_of_getElem? (i := 21) rfl)
theorem dL_law__398 : decode cL_law_ 398 = .ok (.iload 6, 2) := decG_3 (398, (.iload 6, 2)) (List.mem_of_getElem? (i := 22) rfl)
theorem dL_law__400 : decode cL_law_ 400 = .ok (.i2l, 1) := decG_3 (400, (.i2l, 1)) (List.mem_of_getElem? (i := 23) rfl)
theorem dL_law__401 : decode cL_law_ 401 = .ok (.lcmp, 1) := decG_3 (401, (.lcmp, 1)) (List.mem_of_getElem? (i := 24) rfl)
theorem dL_law__402 : decode cL_law_ 402 = .ok (.ifCond .eq 5, 3) := decG_3 (402, (.ifCond .eq 5, 3)) (List.mem_of_getElem? (i := 25) rfl)
theorem dL_law__405 : decode cL_law_ 405 = .ok (.iconst 0, 1) := decG_3 (405, (.iconst 0, 1)) (List.mem_of_getElem? (i := 26) rfl)
theorem dL_law__406 : decode cL_law_ 406 = .ok (.ireturn, 1) := decG_3 (406, (.ireturn, 1)) (List.mem_of_getElem? (i := 27) rfl)
theorem dL_law__407 : decode cL_law_ 407 = .ok (.goto 1984, 3) := decG_3 (407, (.goto 1984, 3)) (List.mem_of_getElem? (i := 28) rfl)
theorem dL_law__410 : decode cL_law_ 410 = .ok (.aload_n 1, 1) := decG_3 (410, (.aload_n 1, 1)) (List.mem_of_getElem? (i := 29) rfl)
theorem dL_law__411 : decode cL_law_ 411 = .ok (.invokevirtual 133, 3) := decG_3 (411, (.invokevirtual 133, 3)) (List.mem_of_getElem? (i := 30) rfl)
theorem dL_law__414 : decode cL_law_ 414 = .ok (.aload_n 2, 1) := decG_3 (414, (.aload_n 2, 1)) (List.mem_of_getElem? (i := 31) rfl)
theorem dL_law__415 : decode cL_law_ 415 = .ok (.invokevirtual 136, 3) := decG_3 (415, (.invokevirtual 136, 3)) (List.mem_of_getElem? (i := 32) rfl)
theorem dL_law__418 : decode cL_law_ 418 = .ok (.if_icmp .eq 1973, 3) := decG_3 (418, (.if_icmp .eq 1973, 3)) (List.mem_of_getElem? (i := 33) rfl)
theorem dL_law__421 : decode cL_law_ 421 = .ok (.iconst 0, 1) := decG_3 (421, (.iconst 0, 1)) (List.mem_of_getElem? (i := 34) rfl)
theorem dL_law__422 : decode cL_law_ 422 = .ok (.ireturn, 1) := decG_3 (422, (.ireturn, 1)) (List.mem_of_getElem? (i := 35) rfl)
theorem dL_law__423 : decode cL_law_ 423 = .ok (.aload_n 1, 1) := decG_3 (423, (.aload_n 1, 1)) (List.mem_of_getElem? (i := 36) rfl)
theorem dL_law__424 : decode cL_law_ 424 = .ok (.aload_n 0, 1) := decG_3 (424, (.aload_n 0, 1)) (List.mem_of_getElem? (i := 37) rfl)
theorem dL_law__425 : decode cL_law_ 425 = .ok (.iload 4, 2) := decG_3 (425, (.iload 4, 2)) (List.mem_of_getElem? (i := 38) rfl)
theorem dL_law__427 : decode cL_law_ 427 = .ok (.iconst 1, 1) := decG_3 (427, (.iconst 1, 1)) (List.mem_of_getElem? (i := 39) rfl)
set_option maxRecDepth 100000 in
theorem decG_4 : ∀ q ∈ ([(428, (.iadd, 1)), (429, (.iaload, 1)), (430, (.aload_n 0, 1)), (431, (.iload 4, 2)), (433, (.iconst 2, 1)), (434, (.iadd, 1)), (435, (.iaload, 1)), (436, (.aload_n 3, 1)), (437, (.invokestatic 137, 3)), (440, (.istore 5, 2)), (442, (.aload_n 2, 1)), (443, (.aload_n 0, 1)), (444, (.iload 4, 2)), (446, (.iconst 1, 1)), (447, (.iadd, 1)), (448, (.iaload, 1)), (449, (.aload_n 0, 1)), (450, (.iload 4, 2)), (452, (.iconst 2, 1)), (453, (.iadd, 1)), (454, (.iaload, 1)), (455, (.invokevirtual 140, 3)), (458, (.istore 6, 2)), (460, (.aload_n 2, 1)), (461, (.invokevirtual 127, 3)), (464, (.iload 5, 2)), (466, (.if_icmp .eq 5, 3)), (469, (.iconst 0, 1)), (470, (.ireturn, 1)), (471, (.iload 5, 2)), (473, (.ifCond .ne 15, 3)), (476, (.aload_n 3, 1)), (477, (.iconst 0, 1)), (478, (.laload, 1)), (479, (.iload 6, 2)), (481, (.i2l, 1)), (482, (.lcmp, 1)), (483, (.ifCond .eq 5, 3)), (486, (.iconst 0, 1)), (487, (.ireturn, 1))] : List (Nat × (Instr × Nat))), decode cL_law_ q.1 = .ok q.2 := by decide +kernel
theorem dL_law__428 : decode cL_law_ 428 = .ok (.iadd, 1) := decG_4 (428, (.iadd, 1)) (List.mem_of_getElem? (i := 0) rfl)
theorem dL_law__429 : decode cL_law_ 429 = .ok (.iaload, 1) := decG_4 (429, (.iaload, 1)) (List.mem_of_getElem? (i := 1) rfl)
theorem dL_law__430 : decode cL_law_ 430 = .ok (.aload_n 0, 1) := decG_4 (430, (.aload_n 0, 1)) (List.mem_of_getElem? (i := 2) rfl)
theorem dL_law__431 : decode cL_law_ 431 = .ok (.iload 4, 2) := decG_4 (431, (.iload 4, 2)) (List.mem_of_getElem? (i := 3) rfl)
theorem dL_law__433 : decode cL_law_ 433 = .ok (.iconst 2, 1) := decG_4 (433, (.iconst 2, 1)) (List.mem_of_getElem? (i := 4) rfl)
theorem dL_law__434 : decode cL_law_ 434 = .ok (.iadd, 1) := decG_4 (434, (.iadd, 1)) (List.mem_of_getElem? (i := 5) rfl)
theorem dL_law__435 : decode cL_law_ 435 = .ok (.iaload, 1) := decG_4 (435, (.iaload, 1)) (List.mem_of_getElem? (i := 6) rfl)
theorem dL_law__436 : decode cL_law_ 436 = .ok (.aload_n 3, 1) := decG_4 (436, (.aload_n 3, 1)) (List.mem_of_getElem? (i := 7) rfl)
theorem dL_law__437 : decode cL_law_ 437 = .ok (.invokestatic 137, 3) := decG_4 (437, (.invokestatic 137, 3)) (List.mem_of_getElem? (i := 8) rfl)
theorem dL_law__440 : decode cL_law_ 440 = .ok (.istore 5, 2) := decG_4 (440, (.istore 5, 2)) (List.mem_of_getElem? (i := 9) rfl)
theorem dL_law__442 : decode cL_law_ 442 = .ok (.aload_n 2, 1) := decG_4 (442, (.aload_n 2, 1)) (List.mem_of_getElem? (i := 10) rfl)
theorem dL_law__443 : decode cL_law_ 443 = .ok (.aload_n 0, 1) := decG_4 (443, (.aload_n 0, 1)) (List.mem_of_getElem? (i := 11) rfl)
theorem dL_law__444 : decode cL_law_ 444 = .ok (.iload 4, 2) := decG_4 (444, (.iload 4, 2)) (List.mem_of_getElem? (i := 12) rfl)
theorem dL_law__446 : decode cL_law_ 446 = .ok (.iconst 1, 1) := decG_4 (446, (.iconst 1, 1)) (List.mem_of_getElem? (i := 13) rfl)
theorem dL_law__447 : decode cL_law_ 447 = .ok (.iadd, 1) := decG_4 (447, (.iadd, 1)) (List.mem_of_getElem? (i := 14) rfl)
theorem dL_law__448 : decode cL_law_ 448 = .ok (.iaload, 1) := decG_4 (448, (.iaload, 1)) (List.mem_of_getElem? (i := 15) rfl)
theorem dL_law__449 : decode cL_law_ 449 = .ok (.aload_n 0, 1) := decG_4 (449, (.aload_n 0, 1)) (List.mem_of_getElem? (i := 16) rfl)
theorem dL_law__450 : decode cL_law_ 450 = .ok (.iload 4, 2) := decG_4 (450, (.iload 4, 2)) (List.mem_of_getElem? (i := 17) rfl)
theorem dL_law__452 : decode cL_law_ 452 = .ok (.iconst 2, 1) := decG_4 (452, (.iconst 2, 1)) (List.mem_of_getElem? (i := 18) rfl)
theorem dL_law__453 : decode cL_law_ 453 = .ok (.iadd, 1) := decG_4 (453, (.iadd, 1)) (List.mem_of_getElem? (i := 19) rfl)
theorem dL_law__454 : decode cL_law_ 454 = .ok (.iaload, 1) := decG_4 (454, (.iaload, 1)) (List.mem_of_getElem? (i := 20) rfl)
theorem dL_law__455 : decode cL_law_ 455 = .ok (.invokevirtual 140, 3) := decG_4 (455, (.invokevirtual 140, 3)) (List.mem_of_getElem? (i := 21) rfl)
theorem dL_law__458 : decode cL_law_ 458 = .ok (.istore 6, 2) := decG_4 (458, (.istore 6, 2)) (List.mem_of_getElem? (i := 22) rfl)
theorem dL_law__460 : decode cL_law_ 460 = .ok (.aload_n 2, 1) := decG_4 (460, (.aload_n 2, 1)) (List.mem_of_getElem? (i := 23) rfl)
theorem dL_law__461 : decode cL_law_ 461 = .ok (.invokevirtual 127, 3) := decG_4 (461, (.invokevirtual 127, 3)) (List.mem_of_getElem? (i := 24) rfl)
theorem dL_law__464 : decode cL_law_ 464 = .ok (.iload 5, 2) := decG_4 (464, (.iload 5, 2)) (List.mem_of_getElem? (i := 25) rfl)
theorem dL_law__466 : decode cL_law_ 466 = .ok (.if_icmp .eq 5, 3) := decG_4 (466, (.if_icmp .eq 5, 3)) (List.mem_of_getElem? (i := 26) rfl)
theorem dL_law__469 : decode cL_law_ 469 = .ok (.iconst 0, 1) := decG_4 (469, (.iconst 0, 1)) (List.mem_of_getElem? (i := 27) rfl)
theorem dL_law__470 : decode cL_law_ 470 = .ok (.ireturn, 1) := decG_4 (470, (.ireturn, 1)) (List.mem_of_getElem? (i := 28) rfl)
theorem dL_law__471 : decode cL_law_ 471 = .ok (.iload 5, 2) := decG_4 (471, (.iload 5, 2)) (List.mem_of_getElem? (i := 29) rfl)
theorem dL_law__473 : decode cL_law_ 473 = .ok (.ifCond .ne 15, 3) := decG_4 (473, (.ifCond .ne 15, 3)) (List.mem_of_getElem? (i := 30) rfl)
theorem dL_law__476 : decode cL_law_ 476 = .ok (.aload_n 3, 1) := decG_4 (476, (.aload_n 3, 1)) (List.mem_of_getElem? (i := 31) rfl)
theorem dL_law__477 : decode cL_law_ 477 = .ok (.iconst 0, 1) := decG_4 (477, (.iconst 0, 1)) (List.mem_of_getElem? (i := 32) rfl)
theorem dL_law__478 : decode cL_law_ 478 = .ok (.laload, 1) := decG_4 (478, (.laload, 1)) (List.mem_of_getElem? (i := 33) rfl)
theorem dL_law__479 : decode cL_law_ 479 = .ok (.iload 6, 2) := decG_4 (479, (.iload 6, 2)) (List.mem_of_getElem? (i := 34) rfl)
theorem dL_law__481 : decode cL_law_ 481 = .ok (.i2l, 1) := decG_4 (481, (.i2l, 1)) (List.mem_of_getElem? (i := 35) rfl)
theorem dL_law__482 : decode cL_law_ 482 = .ok (.lcmp, 1) := decG_4 (482, (.lcmp, 1)) (List.mem_of_getElem? (i := 36) rfl)
theorem dL_law__483 : decode cL_law_ 483 = .ok (.ifCond .eq 5, 3) := decG_4 (483, (.ifCond .eq 5, 3)) (List.mem_of_getElem? (i := 37) rfl)
theorem dL_law__486 : decode cL_law_ 486 = .ok (.iconst 0, 1) := decG_4 (486, (.iconst 0, 1)) (List.mem_of_getElem? (i := 38) rfl)
theorem dL_law__487 : decode cL_law_ 487 = .ok (.ireturn, 1) := decG_4 (487, (.ireturn, 1)) (List.mem_of_getElem? (i := 39) rfl)
set_option maxRecDepth 100000 in
theorem decG_5 : ∀ q ∈ ([(488, (.goto 1903, 3)), (491, (.aload_n 1, 1)), (492, (.aload_n 0, 1)), (493, (.iload 4, 2)), (495, (.iconst 1, 1)), (496, (.iadd, 1)), (497, (.iaload, 1)), (498, (.aload_n 0, 1)), (499, (.iload 4, 2)), (501, (.iconst 2, 1)), (502, (.iadd, 1)), (503, (.iaload, 1)), (504, (.aload_n 3, 1)), (505, (.invokestatic 141, 3)), (508, (.istore 5, 2)), (510, (.aload_n 2, 1)), (511, (.aload_n 0, 1)), (512, (.iload 4, 2)), (514, (.iconst 1, 1)), (515, (.iadd, 1)), (516, (.iaload, 1)), (517, (.aload_n 0, 1)), (518, (.iload 4, 2)), (520, (.iconst 2, 1)), (521, (.iadd, 1)), (522, (.iaload, 1)), (523, (.invokevirtual 143, 3)), (526, (.istore 6, 2)), (528, (.aload_n 2, 1)), (529, (.invokevirtual 127, 3)), (532, (.iload 5, 2)), (534, (.if_icmp .eq 5, 3)), (537, (.iconst 0, 1)), (538, (.ireturn, 1)), (539, (.iload 5, 2)), (541, (.ifCond .ne 15, 3)), (544, (.aload_n 3, 1)), (545, (.iconst 0, 1)), (546, (.laload, 1)), (547, (.iload 6, 2))] : List (Nat × (Instr × Nat))), decode cL_law_ q.1 = .ok q.2 := by decide +kernel
theorem dL_law__488 : decode cL_law_ 488 = .ok (.goto 1903, 3) := decG_5 (488, (.goto 1903, 3)) (List.mem_of_getElem? (i := 0) rfl)
theorem dL_law__491 : decode cL_law_ 491 = .ok (.aload_n 1, 1) := decG_5 (491, (.aload_n 1, 1)) (List.mem_of_getElem? (i := 1) rfl)
theorem dL_law__492 : decode cL_law_ 492 = .ok (.aload_n 0, 1) := decG_5 (492, (.aload_n 0, 1)) (List.mem_of_getElem? (i := 2) rfl)
theorem dL_law__493 : decode cL_law_ 493 = .ok (.iload 4, 2) := decG_5 (493, (.iload 4, 2)) (List.mem_of_getElem? (i := 3) rfl)
theorem dL_law__495 : decode cL_law_ 495 = .ok (.iconst 1, 1) := decG_5 (495, (.iconst 1, 1)) (List.mem_of_getElem? (i := 4) rfl)
theorem dL_law__496 : decode cL_law_ 496 = .ok (.iadd, 1) := decG_5 (496, (.iadd, 1)) (List.mem_of_getElem? (i := 5) rfl)
theorem dL_law__497 : decode cL_law_ 497 = .ok (.iaload, 1) := decG_5 (497, (.iaload, 1)) (List.mem_of_getElem? (i := 6) rfl)
theorem dL_law__498 : decode cL_law_ 498 = .ok (.aload_n 0, 1) := decG_5 (498, (.aload_n 0, 1)) (List.mem_of_getElem? (i := 7) rfl)
theorem dL_law__499 : decode cL_law_ 499 = .ok (.iload 4, 2) := decG_5 (499, (.iload 4, 2)) (List.mem_of_getElem? (i := 8) rfl)
theorem dL_law__501 : decode cL_law_ 501 = .ok (.iconst 2, 1) := decG_5 (501, (.iconst 2, 1)) (List.mem_of_getElem? (i := 9) rfl)
theorem dL_law__502 : decode cL_law_ 502 = .ok (.iadd, 1) := decG_5 (502, (.iadd, 1)) (List.mem_of_getElem? (i := 10) rfl)
theorem dL_law__503 : decode cL_law_ 503 = .ok (.iaload, 1) := decG_5 (503, (.iaload, 1)) (List.mem_of_getElem? (i := 11) rfl)
theorem dL_law__504 : decode cL_law_ 504 = .ok (.aload_n 3, 1) := decG_5 (504, (.aload_n 3, 1)) (List.mem_of_getElem? (i := 12) rfl)
theorem dL_law__505 : decode cL_law_ 505 = .ok (.invokestatic 141, 3) := decG_5 (505, (.invokestatic 141, 3)) (List.mem_of_getElem? (i := 13) rfl)
theorem dL_law__508 : decode cL_law_ 508 = .ok (.istore 5, 2) := decG_5 (508, (.istore 5, 2)) (List.mem_of_getElem? (i := 14) rfl)
theorem dL_law__510 : decode cL_law_ 510 = .ok (.aload_n 2, 1) := decG_5 (510, (.aload_n 2, 1)) (List.mem_of_getElem? (i := 15) rfl)
theorem dL_law__511 : decode cL_law_ 511 = .ok (.aload_n 0, 1) := decG_5 (511, (.aload_n 0, 1)) (List.mem_of_getElem? (i := 16) rfl)
theorem dL_law__512 : decode cL_law_ 512 = .ok (.iload 4, 2) := decG_5 (512, (.iload 4, 2)) (List.mem_of_getElem? (i := 17) rfl)
theorem dL_law__514 : decode cL_law_ 514 = .ok (.iconst 1, 1) := decG_5 (514, (.iconst 1, 1)) (List.mem_of_getElem? (i := 18) rfl)
theorem dL_law__515 : decode cL_law_ 515 = .ok (.iadd, 1) := decG_5 (515, (.iadd, 1)) (List.mem_of_getElem? (i := 19) rfl)
theorem dL_law__516 : decode cL_law_ 516 = .ok (.iaload, 1) := decG_5 (516, (.iaload, 1)) (List.mem_of_getElem? (i := 20) rfl)
theorem dL_law__517 : decode cL_law_ 517 = .ok (.aload_n 0, 1) := decG_5 (517, (.aload_n 0, 1)) (List.mem_of_getElem? (i := 21) rfl)
theorem dL_law__518 : decode cL_law_ 518 = .ok (.iload 4, 2) := decG_5 (518, (.iload 4, 2)) (List.mem_of_getElem? (i := 22) rfl)
theorem dL_law__520 : decode cL_law_ 520 = .ok (.iconst 2, 1) := decG_5 (520, (.iconst 2, 1)) (List.mem_of_getElem? (i := 23) rfl)
theorem dL_law__521 : decode cL_law_ 521 = .ok (.iadd, 1) := decG_5 (521, (.iadd, 1)) (List.mem_of_getElem? (i := 24) rfl)
theorem dL_law__522 : decode cL_law_ 522 = .ok (.iaload, 1) := decG_5 (522, (.iaload, 1)) (List.mem_of_getElem? (i := 25) rfl)
theorem dL_law__523 : decode cL_law_ 523 = .ok (.invokevirtual 143, 3) := decG_5 (523, (.invokevirtual 143, 3)) (List.mem_of_getElem? (i := 26) rfl)
theorem dL_law__526 : decode cL_law_ 526 = .ok (.istore 6, 2) := decG_5 (526, (.istore 6, 2)) (List.mem_of_getElem? (i := 27) rfl)
theorem dL_law__528 : decode cL_law_ 528 = .ok (.aload_n 2, 1) := decG_5 (528, (.aload_n 2, 1)) (List.mem_of_getElem? (i := 28) rfl)
theorem dL_law__529 : decode cL_law_ 529 = .ok (.invokevirtual 127, 3) := decG_5 (529, (.invokevirtual 127, 3)) (List.mem_of_getElem? (i := 29) rfl)
theorem dL_law__532 : decode cL_law_ 532 = .ok (.iload 5, 2) := decG_5 (532, (.iload 5, 2)) (List.mem_of_getElem? (i := 30) rfl)
theorem dL_law__534 : decode cL_law_ 534 = .ok (.if_icmp .eq 5, 3) := decG_5 (534, (.if_icmp .eq 5, 3)) (List.mem_of_getElem? (i := 31) rfl)
theorem dL_law__537 : decode cL_law_ 537 = .ok (.iconst 0, 1) := decG_5 (537, (.iconst 0, 1)) (List.mem_of_getElem? (i := 32) rfl)
theorem dL_law__538 : decode cL_law_ 538 = .ok (.ireturn, 1) := decG_5 (538, (.ireturn, 1)) (List.mem_of_getElem? (i := 33) rfl)
theorem dL_law__539 : decode cL_law_ 539 = .ok (.iload 5, 2) := decG_5 (539, (.iload 5, 2)) (List.mem_of_getElem? (i := 34) rfl)
theorem dL_law__541 : decode cL_law_ 541 = .ok (.ifCond .ne 15, 3) := decG_5 (541, (.ifCond .ne 15, 3)) (List.mem_of_getElem? (i := 35) rfl)
theorem dL_law__544 : decode cL_law_ 544 = .ok (.aload_n 3, 1) := decG_5 (544, (.aload_n 3, 1)) (List.mem_of_getElem? (i := 36) rfl)
theorem dL_law__545 : decode cL_law_ 545 = .ok (.iconst 0, 1) := decG_5 (545, (.iconst 0, 1)) (List.mem_of_getElem? (i := 37) rfl)
theorem dL_law__546 : decode cL_law_ 546 = .ok (.laload, 1) := decG_5 (546, (.laload, 1)) (List.mem_of_getElem? (i := 38) rfl)
theorem dL_law__547 : decode cL_law_ 547 = .ok (.iload 6, 2) := decG_5 (547, (.iload 6, 2)) (List.mem_of_getElem? (i := 39) rfl)
set_option maxRecDepth 100000 in
theorem decG_6 : ∀ q ∈ ([(549, (.i2l, 1)), (550, (.lcmp, 1)), (551, (.ifCond .eq 5, 3)), (554, (.iconst 0, 1)), (555, (.ireturn, 1)), (556, (.goto 1835, 3)), (559, (.aload_n 1, 1)), (560, (.aload_n 0, 1)), (561, (.iload 4, 2)), (563, (.iconst 1, 1)), (564, (.iadd, 1)), (565, (.iaload, 1)), (566, (.aload_n 0, 1)), (567, (.iload 4, 2)), (569, (.iconst 2, 1)), (570, (.iadd, 1)), (571, (.iaload, 1)), (572, (.aload_n 3, 1)), (573, (.invokestatic 144, 3)), (576, (.istore 5, 2)), (578, (.aload_n 2, 1)), (579, (.aload_n 0, 1)), (580, (.iload 4, 2)), (582, (.iconst 1, 1)), (583, (.iadd, 1)), (584, (.iaload, 1)), (585, (.aload_n 0, 1)), (586, (.iload 4, 2)), (588, (.iconst 2, 1)), (589, (.iadd, 1)), (590, (.iaload, 1)), (591, (.invokevirtual 146, 3)), (594, (.istore 6, 2)), (596, (.aload_n 2, 1)), (597, (.invokevirtual 127, 3)), (600, (.iload 5, 2)), (602, (.if_icmp .eq 5, 3)), (605, (.iconst 0, 1)), (606, (.ireturn, 1)), (607, (.iload 5, 2))] : List (Nat × (Instr × Nat))), decode cL_law_ q.1 = .ok q.2 := by decide +kernel
theorem dL_law__549 : decode cL_law_ 549 = .ok (.i2l, 1) := decG_6 (549, (.i2l, 1)) (List.mem_of_getElem? (i := 0) rfl)
theorem dL_law__550 : decode cL_law_ 550 = .ok (.lcmp, 1) := decG_6 (550, (.lcmp, 1)) (List.mem_of_getElem? (i := 1) rfl)
theorem dL_law__551 : decode cL_law_ 551 = .ok (.ifCond .eq 5, 3) := decG_6 (551, (.ifCond .eq 5, 3)) (List.mem_of_getElem? (i := 2) rfl)
theorem dL_law__554 : decode cL_law_ 554 = .ok (.iconst 0, 1) := decG_6 (554, (.iconst 0, 1)) (List.mem_of_getElem? (i := 3) rfl)
theorem dL_law__555 : decode cL_law_ 555 = .ok (.ireturn, 1) := decG_6 (555, (.ireturn, 1)) (List.mem_of_getElem? (i := 4) rfl)
theorem dL_law__556 : decode cL_law_ 556 = .ok (.goto 1835, 3) := decG_6 (556, (.goto 1835, 3)) (List.mem_of_getElem? (i := 5) rfl)
theorem dL_law__559 : decode cL_law_ 559 = .ok (.aload_n 1, 1) := decG_6 (559, (.aload_n 1, 1)) (List.mem_of_getElem? (i := 6) rfl)
theorem dL_law__560 : decode cL_law_ 560 = .ok (.aload_n 0, 1) := decG_6 (560, (.aload_n 0, 1)) (List.mem_of_getElem? (i := 7) rfl)
theorem dL_law__561 : decode cL_law_ 561 = .ok (.iload 4, 2) := decG_6 (561, (.iload 4, 2)) (List.mem_of_getElem? (i := 8) rfl)
theorem dL_law__563 : decode cL_law_ 563 = .ok (.iconst 1, 1) := decG_6 (563, (.iconst 1, 1)) (List.mem_of_getElem? (i := 9) rfl)
theorem dL_law__564 : decode cL_law_ 564 = .ok (.iadd, 1) := decG_6 (564, (.iadd, 1)) (List.mem_of_getElem? (i := 10) rfl)
theorem dL_law__565 : decode cL_law_ 565 = .ok (.iaload, 1) := decG_6 (565, (.iaload, 1)) (List.mem_of_getElem? (i := 11) rfl)
theorem dL_law__566 : decode cL_law_ 566 = .ok (.aload_n 0, 1) := decG_6 (566, (.aload_n 0, 1)) (List.mem_of_getElem? (i := 12) rfl)
theorem dL_law__567 : decode cL_law_ 567 = .ok (.iload 4, 2) := decG_6 (567, (.iload 4, 2)) (List.mem_of_getElem? (i := 13) rfl)
theorem dL_law__569 : decode cL_law_ 569 = .ok (.iconst 2, 1) := decG_6 (569, (.iconst 2, 1)) (List.mem_of_getElem? (i := 14) rfl)
theorem dL_law__570 : decode cL_law_ 570 = .ok (.iadd, 1) := decG_6 (570, (.iadd, 1)) (List.mem_of_getElem? (i := 15) rfl)
theorem dL_law__571 : decode cL_law_ 571 = .ok (.iaload, 1) := decG_6 (571, (.iaload, 1)) (List.mem_of_getElem? (i := 16) rfl)
theorem dL_law__572 : decode cL_law_ 572 = .ok (.aload_n 3, 1) := decG_6 (572, (.aload_n 3, 1)) (List.mem_of_getElem? (i := 17) rfl)
theorem dL_law__573 : decode cL_law_ 573 = .ok (.invokestatic 144, 3) := decG_6 (573, (.invokestatic 144, 3)) (List.mem_of_getElem? (i := 18) rfl)
theorem dL_law__576 : decode cL_law_ 576 = .ok (.istore 5, 2) := decG_6 (576, (.istore 5, 2)) (List.mem_of_getElem? (i := 19) rfl)
theorem dL_law__578 : decode cL_law_ 578 = .ok (.aload_n 2, 1) := decG_6 (578, (.aload_n 2, 1)) (List.mem_of_getElem? (i := 20) rfl)
theorem dL_law__579 : decode cL_law_ 579 = .ok (.aload_n 0, 1) := decG_6 (579, (.aload_n 0, 1)) (List.mem_of_getElem? (i := 21) rfl)
theorem dL_law__580 : decode cL_law_ 580 = .ok (.iload 4, 2) := decG_6 (580, (.iload 4, 2)) (List.mem_of_getElem? (i := 22) rfl)
theorem dL_law__582 : decode cL_law_ 582 = .ok (.iconst 1, 1) := decG_6 (582, (.iconst 1, 1)) (List.mem_of_getElem? (i := 23) rfl)
theorem dL_law__583 : decode cL_law_ 583 = .ok (.iadd, 1) := decG_6 (583, (.iadd, 1)) (List.mem_of_getElem? (i := 24) rfl)
theorem dL_law__584 : decode cL_law_ 584 = .ok (.iaload, 1) := decG_6 (584, (.iaload, 1)) (List.mem_of_getElem? (i := 25) rfl)
theorem dL_law__585 : decode cL_law_ 585 = .ok (.aload_n 0, 1) := decG_6 (585, (.aload_n 0, 1)) (List.mem_of_getElem? (i := 26) rfl)
theorem dL_law__586 : decode cL_law_ 586 = .ok (.iload 4, 2) := decG_6 (586, (.iload 4, 2)) (List.mem_of_getElem? (i := 27) rfl)
theorem dL_law__588 : decode cL_law_ 588 = .ok (.iconst 2, 1) := decG_6 (588, (.iconst 2, 1)) (List.mem_of_getElem? (i := 28) rfl)
theorem dL_law__589 : decode cL_law_ 589 = .ok (.iadd, 1) := decG_6 (589, (.iadd, 1)) (List.mem_of_getElem? (i := 29) rfl)
theorem dL_law__590 : decode cL_law_ 590 = .ok (.iaload, 1) := decG_6 (590, (.iaload, 1)) (List.mem_of_getElem? (i := 30) rfl)
theorem dL_law__591 : decode cL_law_ 591 = .ok (.invokevirtual 146, 3) := decG_6 (591, (.invokevirtual 146, 3)) (List.mem_of_getElem? (i := 31) rfl)
theorem dL_law__594 : decode cL_law_ 594 = .ok (.istore 6, 2) := decG_6 (594, (.istore 6, 2)) (List.mem_of_getElem? (i := 32) rfl)
theorem dL_law__596 : decode cL_law_ 596 = .ok (.aload_n 2, 1) := decG_6 (596, (.aload_n 2, 1)) (List.mem_of_getElem? (i := 33) rfl)
theorem dL_law__597 : decode cL_law_ 597 = .ok (.invokevirtual 127, 3) := decG_6 (597, (.invokevirtual 127, 3)) (List.mem_of_getElem? (i := 34) rfl)
theorem dL_law__600 : decode cL_law_ 600 = .ok (.iload 5, 2) := decG_6 (600, (.iload 5, 2)) (List.mem_of_getElem? (i := 35) rfl)
theorem dL_law__602 : decode cL_law_ 602 = .ok (.if_icmp .eq 5, 3) := decG_6 (602, (.if_icmp .eq 5, 3)) (List.mem_of_getElem? (i := 36) rfl)
theorem dL_law__605 : decode cL_law_ 605 = .ok (.iconst 0, 1) := decG_6 (605, (.iconst 0, 1)) (List.mem_of_getElem? (i := 37) rfl)
theorem dL_law__606 : decode cL_law_ 606 = .ok (.ireturn, 1) := decG_6 (606, (.ireturn, 1)) (List.mem_of_getElem? (i := 38) rfl)
theorem dL_law__607 : decode cL_law_ 607 = .ok (.iload 5, 2) := decG_6 (607, (.iload 5, 2)) (List.mem_of_getElem? (i := 39) rfl)
set_option maxRecDepth 100000 in
theorem decG_7 : ∀ q ∈ ([(609, (.ifCond .ne 15, 3)), (612, (.aload_n 3, 1)), (613, (.iconst 0, 1)), (614, (.laload, 1)), (615, (.iload 6, 2)), (617, (.i2l, 1)), (618, (.lcmp, 1)), (619, (.ifCond .eq 5, 3)), (622, (.iconst 0, 1)), (623, (.ireturn, 1)), (624, (.goto 1767, 3)), (627, (.aload_n 1, 1)), (628, (.aload_n 0, 1)), (629, (.iload 4, 2)), (631, (.iconst 1, 1)), (632, (.iadd, 1)), (633, (.iaload, 1)), (634, (.aload_n 0, 1)), (635, (.iload 4, 2)), (637, (.iconst 2, 1)), (638, (.iadd, 1)), (639, (.iaload, 1)), (640, (.aload_n 3, 1)), (641, (.invokestatic 147, 3)), (644, (.istore 5, 2)), (646, (.aload_n 2, 1)), (647, (.aload_n 0, 1)), (648, (.iload 4, 2)), (650, (.iconst 1, 1)), (651, (.iadd, 1)), (652, (.iaload, 1)), (653, (.aload_n 0, 1)), (654, (.iload 4, 2)), (656, (.iconst 2, 1)), (657, (.iadd, 1)), (658, (.iaload, 1)), (659, (.invokevirtual 149, 3)), (662, (.istore 6, 2)), (664, (.aload_n 2, 1)), (665, (.invokevirtual 127, 3))] : List (Nat × (Instr × Nat))), decode cL_law_ q.1 = .ok q.2 := by decide +kernel
theorem dL_law__609 : decode cL_law_ 609 = .ok (.ifCond .ne 15, 3) := decG_7 (609, (.ifCond .ne 15, 3)) (List.mem_of_getElem? (i := 0) rfl)
theorem dL_law__612 : decode cL_law_ 612 = .ok (.aload_n 3, 1) := decG_7 (612, (.aload_n 3, 1)) (List.mem_of_getElem? (i := 1) rfl)
theorem dL_law__613 : decode cL_law_ 613 = .ok (.iconst 0, 1) := decG_7 (613, (.iconst 0, 1)) (List.mem_of_getElem? (i := 2) rfl)
theorem dL_law__614 : decode cL_law_ 614 = .ok (.laload, 1) := decG_7 (614, (.laload, 1)) (List.mem_of_getElem? (i := 3) rfl)
theorem dL_law__615 : decode cL_law_ 615 = .ok (.iload 6, 2) := decG_7 (615, (.iload 6, 2)) (List.mem_of_getElem? (i := 4) rfl)
theorem dL_law__617 : decode cL_law_ 617 = .ok (.i2l, 1) := decG_7 (617, (.i2l, 1)) (List.mem_of_getElem? (i := 5) rfl)
theorem dL_law__618 : decode cL_law_ 618 = .ok (.lcmp, 1) := decG_7 (618, (.lcmp, 1)) (List.mem_of_getElem? (i := 6) rfl)
theorem dL_law__619 : decode cL_law_ 619 = .ok (.ifCond .eq 5, 3) := decG_7 (619, (.ifCond .eq 5, 3)) (List.mem_of_getElem? (i := 7) rfl)
theorem dL_law__622 : decode cL_law_ 622 = .ok (.iconst 0, 1) := decG_7 (622, (.iconst 0, 1)) (List.mem_of_getElem? (i := 8) rfl)
theorem dL_law__623 : decode cL_law_ 623 = .ok (.ireturn, 1) := decG_7 (623, (.ireturn, 1)) (List.mem_of_getElem? (i := 9) rfl)
theorem dL_law__624 : decode cL_law_ 624 = .ok (.goto 1767, 3) := decG_7 (624, (.goto 1767, 3)) (List.mem_of_getElem? (i := 10) rfl)
theorem dL_law__627 : decode cL_law_ 627 = .ok (.aload_n 1, 1) := decG_7 (627, (.aload_n 1, 1)) (List.mem_of_getElem? (i := 11) rfl)
theorem dL_law__628 : decode cL_law_ 628 = .ok (.aload_n 0, 1) := decG_7 (628, (.aload_n 0, 1)) (List.mem_of_getElem? (i := 12) rfl)
theorem dL_law__629 : decode cL_law_ 629 = .ok (.iload 4, 2) := decG_7 (629, (.iload 4, 2)) (List.mem_of_getElem? (i := 13) rfl)
theorem dL_law__631 : decode cL_law_ 631 = .ok (.iconst 1, 1) := decG_7 (631, (.iconst 1, 1)) (List.mem_of_getElem? (i := 14) rfl)
theorem dL_law__632 : decode cL_law_ 632 = .ok (.iadd, 1) := decG_7 (632, (.iadd, 1)) (List.mem_of_getElem? (i := 15) rfl)
theorem dL_law__633 : decode cL_law_ 633 = .ok (.iaload, 1) := decG_7 (633, (.iaload, 1)) (List.mem_of_getElem? (i := 16) rfl)
theorem dL_law__634 : decode cL_law_ 634 = .ok (.aload_n 0, 1) := decG_7 (634, (.aload_n 0, 1)) (List.mem_of_getElem? (i := 17) rfl)
theorem dL_law__635 : decode cL_law_ 635 = .ok (.iload 4, 2) := decG_7 (635, (.iload 4, 2)) (List.mem_of_getElem? (i := 18) rfl)
theorem dL_law__637 : decode cL_law_ 637 = .ok (.iconst 2, 1) := decG_7 (637, (.iconst 2, 1)) (List.mem_of_getElem? (i := 19) rfl)
theorem dL_law__638 : decode cL_law_ 638 = .ok (.iadd, 1) := decG_7 (638, (.iadd, 1)) (List.mem_of_getElem? (i := 20) rfl)
theorem dL_law__639 : decode cL_law_ 639 = .ok (.iaload, 1) := decG_7 (639, (.iaload, 1)) (List.mem_of_getElem? (i := 21) rfl)
theorem dL_law__640 : decode cL_law_ 640 = .ok (.aload_n 3, 1) := decG_7 (640, (.aload_n 3, 1)) (List.mem_of_getElem? (i := 22) rfl)
theorem dL_law__641 : decode cL_law_ 641 = .ok (.invokestatic 147, 3) := decG_7 (641, (.invokestatic 147, 3)) (List.mem_of_getElem? (i := 23) rfl)
theorem dL_law__644 : decode cL_law_ 644 = .ok (.istore 5, 2) := decG_7 (644, (.istore 5, 2)) (List.mem_of_getElem? (i := 24) rfl)
theorem dL_law__646 : decode cL_law_ 646 = .ok (.aload_n 2, 1) := decG_7 (646, (.aload_n 2, 1)) (List.mem_of_getElem? (i := 25) rfl)
theorem dL_law__647 : decode cL_law_ 647 = .ok (.aload_n 0, 1) := decG_7 (647, (.aload_n 0, 1)) (List.mem_of_getElem? (i := 26) rfl)
theorem dL_law__648 : decode cL_law_ 648 = .ok (.iload 4, 2) := decG_7 (648, (.iload 4, 2)) (List.mem_of_getElem? (i := 27) rfl)
theorem dL_law__650 : decode cL_law_ 650 = .ok (.iconst 1, 1) := decG_7 (650, (.iconst 1, 1)) (List.mem_of_getElem? (i := 28) rfl)
theorem dL_law__651 : decode cL_law_ 651 = .ok (.iadd, 1) := decG_7 (651, (.iadd, 1)) (List.mem_of_getElem? (i := 29) rfl)
theorem dL_law__652 : decode cL_law_ 652 = .ok (.iaload, 1) := decG_7 (652, (.iaload, 1)) (List.mem_of_getElem? (i := 30) rfl)
theorem dL_law__653 : decode cL_law_ 653 = .ok (.aload_n 0, 1) := decG_7 (653, (.aload_n 0, 1)) (List.mem_of_getElem? (i := 31) rfl)
theorem dL_law__654 : decode cL_law_ 654 = .ok (.iload 4, 2) := decG_7 (654, (.iload 4, 2)) (List.mem_of_getElem? (i := 32) rfl)
theorem dL_law__656 : decode cL_law_ 656 = .ok (.iconst 2, 1) := decG_7 (656, (.iconst 2, 1)) (List.mem_of_getElem? (i := 33) rfl)
theorem dL_law__657 : decode cL_law_ 657 = .ok (.iadd, 1) := decG_7 (657, (.iadd, 1)) (List.mem_of_getElem? (i := 34) rfl)
theorem dL_law__658 : decode cL_law_ 658 = .ok (.iaload, 1) := decG_7 (658, (.iaload, 1)) (List.mem_of_getElem? (i := 35) rfl)
theorem dL_law__659 : decode cL_law_ 659 = .ok (.invokevirtual 149, 3) := decG_7 (659, (.invokevirtual 149, 3)) (List.mem_of_getElem? (i := 36) rfl)
theorem dL_law__662 : decode cL_law_ 662 = .ok (.istore 6, 2) := decG_7 (662, (.istore 6, 2)) (List.mem_of_getElem? (i := 37) rfl)
theorem dL_law__664 : decode cL_law_ 664 = .ok (.aload_n 2, 1) := decG_7 (664, (.aload_n 2, 1)) (List.mem_of_getElem? (i := 38) rfl)
theorem dL_law__665 : decode cL_law_ 665 = .ok (.invokevirtual 127, 3) := decG_7 (665, (.invokevirtual 127, 3)) (List.mem_of_getElem? (i := 39) rfl)
set_option maxRecDepth 100000 in
theorem decG_8 : ∀ q ∈ ([(668, (.iload 5, 2)), (670, (.if_icmp .eq 5, 3)), (673, (.iconst 0, 1)), (674, (.ireturn, 1)), (675, (.iload 5, 2)), (677, (.ifCond .ne 15, 3)), (680, (.aload_n 3, 1)), (681, (.iconst 0, 1)), (682, (.laload, 1)), (683, (.iload 6, 2)), (685, (.i2l, 1)), (686, (.lcmp, 1)), (687, (.ifCond .eq 5, 3)), (690, (.iconst 0, 1)), (691, (.ireturn, 1)), (692, (.goto 1699, 3)), (695, (.aload_n 1, 1)), (696, (.aload_n 0, 1)), (697, (.iload 4, 2)), (699, (.iconst 1, 1)), (700, (.iadd, 1)), (701, (.iaload, 1)), (702, (.aload_n 0, 1)), (703, (.iload 4, 2)), (705, (.iconst 2, 1)), (706, (.iadd, 1)), (707, (.iaload, 1)), (708, (.aload_n 3, 1)), (709, (.invokestatic 150, 3)), (712, (.istore 5, 2)), (714, (.aload_n 2, 1)), (715, (.aload_n 0, 1)), (716, (.iload 4, 2)), (718, (.iconst 1, 1)), (719, (.iadd, 1)), (720, (.iaload, 1)), (721, (.aload_n 0, 1)), (722, (.iload 4, 2)), (724, (.iconst 2, 1)), (725, (.iadd, 1))] : List (Nat × (Instr × Nat))), decode cL_law_ q.1 = .ok q.2 := by decide +kernel
theorem dL_law__668 : decode cL_law_ 668 = .ok (.iload 5, 2) := decG_8 (668, (.iload 5, 2)) (List.mem_of_getElem? (i := 0) rfl)
theorem dL_law__670 : decode cL_law_ 670 = .ok (.if_icmp .eq 5, 3) := decG_8 (670, (.if_icmp .eq 5, 3)) (List.mem_of_getElem? (i := 1) rfl)
theorem dL_law__673 : decode cL_law_ 673 = .ok (.iconst 0, 1) := decG_8 (673, (.iconst 0, 1)) (List.mem_of_getElem? (i := 2) rfl)
theorem dL_law__674 : decode cL_law_ 674 = .ok (.ireturn, 1) := decG_8 (674, (.ireturn, 1)) (List.mem_of_getElem? (i := 3) rfl)
theorem dL_law__675 : decode cL_law_ 675 = .ok (.iload 5, 2) := decG_8 (675, (.iload 5, 2)) (List.mem_of_getElem? (i := 4) rfl)
theorem dL_law__677 : decode cL_law_ 677 = .ok (.ifCond .ne 15, 3) := decG_8 (677, (.ifCond .ne 15, 3)) (List.mem_of_getElem? (i := 5) rfl)
theorem dL_law__680 : decode cL_law_ 680 = .ok (.aload_n 3, 1) := decG_8 (680, (.aload_n 3, 1)) (List.mem_of_getElem? (i := 6) rfl)
theorem dL_law__681 : decode cL_law_ 681 = .ok (.iconst 0, 1) := decG_8 (681, (.iconst 0, 1)) (List.mem_of_getElem? (i := 7) rfl)
theorem dL_law__682 : decode cL_law_ 682 = .ok (.laload, 1) := decG_8 (682, (.laload, 1)) (List.mem_of_getElem? (i := 8) rfl)
theorem dL_law__683 : decode cL_law_ 683 = .ok (.iload 6, 2) := decG_8 (683, (.iload 6, 2)) (List.mem_of_getElem? (i := 9) rfl)
theorem dL_law__685 : decode cL_law_ 685 = .ok (.i2l, 1) := decG_8 (685, (.i2l, 1)) (List.mem_of_getElem? (i := 10) rfl)
theorem dL_law__686 : decode cL_law_ 686 = .ok (.lcmp, 1) := decG_8 (686, (.lcmp, 1)) (List.mem_of_getElem? (i := 11) rfl)
theorem dL_law__687 : decode cL_law_ 687 = .ok (.ifCond .eq 5, 3) := decG_8 (687, (.ifCond .eq 5, 3)) (List.mem_of_getElem? (i := 12) rfl)
theorem dL_law__690 : decode cL_law_ 690 = .ok (.iconst 0, 1) := decG_8 (690, (.iconst 0, 1)) (List.mem_of_getElem? (i := 13) rfl)
theorem dL_law__691 : decode cL_law_ 691 = .ok (.ireturn, 1) := decG_8 (691, (.ireturn, 1)) (List.mem_of_getElem? (i := 14) rfl)
theorem dL_law__692 : decode cL_law_ 692 = .ok (.goto 1699, 3) := decG_8 (692, (.goto 1699, 3)) (List.mem_of_getElem? (i := 15) rfl)
theorem dL_law__695 : decode cL_law_ 695 = .ok (.aload_n 1, 1) := decG_8 (695, (.aload_n 1, 1)) (List.mem_of_getElem? (i := 16) rfl)
theorem dL_law__696 : decode cL_law_ 696 = .ok (.aload_n 0, 1) := decG_8 (696, (.aload_n 0, 1)) (List.mem_of_getElem? (i := 17) rfl)
theorem dL_law__697 : decode cL_law_ 697 = .ok (.iload 4, 2) := decG_8 (697, (.iload 4, 2)) (List.mem_of_getElem? (i := 18) rfl)
theorem dL_law__699 : decode cL_law_ 699 = .ok (.iconst 1, 1) := decG_8 (699, (.iconst 1, 1)) (List.mem_of_getElem? (i := 19) rfl)
theorem dL_law__700 : decode cL_law_ 700 = .ok (.iadd, 1) := decG_8 (700, (.iadd, 1)) (List.mem_of_getElem? (i := 20) rfl)
theorem dL_law__701 : decode cL_law_ 701 = .ok (.iaload, 1) := decG_8 (701, (.iaload, 1)) (List.mem_of_getElem? (i := 21) rfl)
theorem dL_law__702 : decode cL_law_ 702 = .ok (.aload_n 0, 1) := decG_8 (702, (.aload_n 0, 1)) (List.mem_of_getElem? (i := 22) rfl)
theorem dL_law__703 : decode cL_law_ 703 = .ok (.iload 4, 2) := decG_8 (703, (.iload 4, 2)) (List.mem_of_getElem? (i := 23) rfl)
theorem dL_law__705 : decode cL_law_ 705 = .ok (.iconst 2, 1) := decG_8 (705, (.iconst 2, 1)) (List.mem_of_getElem? (i := 24) rfl)
theorem dL_law__706 : decode cL_law_ 706 = .ok (.iadd, 1) := decG_8 (706, (.iadd, 1)) (List.mem_of_getElem? (i := 25) rfl)
theorem dL_law__707 : decode cL_law_ 707 = .ok (.iaload, 1) := decG_8 (707, (.iaload, 1)) (List.mem_of_getElem? (i := 26) rfl)
theorem dL_law__708 : decode cL_law_ 708 = .ok (.aload_n 3, 1) := decG_8 (708, (.aload_n 3, 1)) (List.mem_of_getElem? (i := 27) rfl)
theorem dL_law__709 : decode cL_law_ 709 = .ok (.invokestatic 150, 3) := decG_8 (709, (.invokestatic 150, 3)) (List.mem_of_getElem? (i := 28) rfl)
theorem dL_law__712 : decode cL_law_ 712 = .ok (.istore 5, 2) := decG_8 (712, (.istore 5, 2)) (List.mem_of_getElem? (i := 29) rfl)
theorem dL_law__714 : decode cL_law_ 714 = .ok (.aload_n 2, 1) := decG_8 (714, (.aload_n 2, 1)) (List.mem_of_getElem? (i := 30) rfl)
theorem dL_law__715 : decode cL_law_ 715 = .ok (.aload_n 0, 1) := decG_8 (715, (.aload_n 0, 1)) (List.mem_of_getElem? (i := 31) rfl)
theorem dL_law__716 : decode cL_law_ 716 = .ok (.iload 4, 2) := decG_8 (716, (.iload 4, 2)) (List.mem_of_getElem? (i := 32) rfl)
theorem dL_law__718 : decode cL_law_ 718 = .ok (.iconst 1, 1) := decG_8 (718, (.iconst 1, 1)) (List.mem_of_getElem? (i := 33) rfl)
theorem dL_law__719 : decode cL_law_ 719 = .ok (.iadd, 1) := decG_8 (719, (.iadd, 1)) (List.mem_of_getElem? (i := 34) rfl)
theorem dL_law__720 : decode cL_law_ 720 = .ok (.iaload, 1) := decG_8 (720, (.iaload, 1)) (List.mem_of_getElem? (i := 35) rfl)
theorem dL_law__721 : decode cL_law_ 721 = .ok (.aload_n 0, 1) := decG_8 (721, (.aload_n 0, 1)) (List.mem_of_getElem? (i := 36) rfl)
theorem dL_law__722 : decode cL_law_ 722 = .ok (.iload 4, 2) := decG_8 (722, (.iload 4, 2)) (List.mem_of_getElem? (i := 37) rfl)
theorem dL_law__724 : decode cL_law_ 724 = .ok (.iconst 2, 1) := decG_8 (724, (.iconst 2, 1)) (List.mem_of_getElem? (i := 38) rfl)
theorem dL_law__725 : decode cL_law_ 725 = .ok (.iadd, 1) := decG_8 (725, (.iadd, 1)) (List.mem_of_getElem? (i := 39) rfl)
set_option maxRecDepth 100000 in
theorem decG_9 : ∀ q ∈ ([(726, (.iaload, 1)), (727, (.invokevirtual 152, 3)), (730, (.istore 6, 2)), (732, (.aload_n 2, 1)), (733, (.invokevirtual 127, 3)), (736, (.iload 5, 2)), (738, (.if_icmp .eq 5, 3)), (741, (.iconst 0, 1)), (742, (.ireturn, 1)), (743, (.iload 5, 2)), (745, (.ifCond .ne 15, 3)), (748, (.aload_n 3, 1)), (749, (.iconst 0, 1)), (750, (.laload, 1)), (751, (.iload 6, 2)), (753, (.i2l, 1)), (754, (.lcmp, 1)), (755, (.ifCond .eq 5, 3)), (758, (.iconst 0, 1)), (759, (.ireturn, 1)), (760, (.goto 1631, 3)), (763, (.aload_n 1, 1)), (764, (.aload_n 0, 1)), (765, (.iload 4, 2)), (767, (.iconst 1, 1)), (768, (.iadd, 1)), (769, (.iaload, 1)), (770, (.aload_n 0, 1)), (771, (.iload 4, 2)), (773, (.iconst 2, 1)), (774, (.iadd, 1)), (775, (.iaload, 1)), (776, (.ifCond .eq 7, 3)), (779, (.iconst 1, 1)), (780, (.goto 4, 3)), (783, (.iconst 0, 1)), (784, (.aload_n 3, 1)), (785, (.invokestatic 153, 3)), (788, (.istore 5, 2)), (790, (.aload_n 2, 1))] : List (Nat × (Instr × Nat))), decode cL_law_ q.1 = .ok q.2 := by decide +kernel
theorem dL_law__726 : decode cL_law_ 726 = .ok (.iaload, 1) := decG_9 (726, (.iaload, 1)) (List.mem_of_getElem? (i := 0) rfl)
theorem dL_law__727 : decode cL_law_ 727 = .ok (.invokevirtual 152, 3) := decG_9 (727, (.invokevirtual 152, 3)) (List.mem_of_getElem? (i := 1) rfl)
theorem dL_law__730 : decode cL_law_ 730 = .ok (.istore 6, 2) := decG_9 (730, (.istore 6, 2)) (List.mem_of_getElem? (i := 2) rfl)
theorem dL_law__732 : decode cL_law_ 732 = .ok (.aload_n 2, 1) := decG_9 (732, (.aload_n 2, 1)) (List.mem_of_getElem? (i := 3) rfl)
theorem dL_law__733 : decode cL_law_ 733 = .ok (.invokevirtual 127, 3) := decG_9 (733, (.invokevirtual 127, 3)) (List.mem_of_getElem? (i := 4) rfl)
theorem dL_law__736 : decode cL_law_ 736 = .ok (.iload 5, 2) := decG_9 (736, (.iload 5, 2)) (List.mem_of_getElem? (i := 5) rfl)
theorem dL_law__738 : decode cL_law_ 738 = .ok (.if_icmp .eq 5, 3) := decG_9 (738, (.if_icmp .eq 5, 3)) (List.mem_of_getElem? (i := 6) rfl)
theorem dL_law__741 : decode cL_law_ 741 = .ok (.iconst 0, 1) := decG_9 (741, (.iconst 0, 1)) (List.mem_of_getElem? (i := 7) rfl)
theorem dL_law__742 : decode cL_law_ 742 = .ok (.ireturn, 1) := decG_9 (742, (.ireturn, 1)) (List.mem_of_getElem? (i := 8) rfl)
theorem dL_law__743 : decode cL_law_ 743 = .ok (.iload 5, 2) := decG_9 (743, (.iload 5, 2)) (List.mem_of_getElem? (i := 9) rfl)
theorem dL_law__745 : decode cL_law_ 745 = .ok (.ifCond .ne 15, 3) := decG_9 (745, (.ifCond .ne 15, 3)) (List.mem_of_getElem? (i := 10) rfl)
theorem dL_law__748 : decode cL_law_ 748 = .ok (.aload_n 3, 1) := decG_9 (748, (.aload_n 3, 1)) (List.mem_of_getElem? (i := 11) rfl)
theorem dL_law__749 : decode cL_law_ 749 = .ok (.iconst 0, 1) := decG_9 (749, (.iconst 0, 1)) (List.mem_of_getElem? (i := 12) rfl)
theorem dL_law__750 : decode cL_law_ 750 = .ok (.laload, 1) := decG_9 (750, (.laload, 1)) (List.mem_of_getElem? (i := 13) rfl)
theorem dL_law__751 : decode cL_law_ 751 = .ok (.iload 6, 2) := decG_9 (751, (.iload 6, 2)) (List.mem_of_getElem? (i := 14) rfl)
theorem dL_law__753 : decode cL_law_ 753 = .ok (.i2l, 1) := decG_9 (753, (.i2l, 1)) (List.mem_of_getElem? (i := 15) rfl)
theorem dL_law__754 : decode cL_law_ 754 = .ok (.lcmp, 1) := decG_9 (754, (.lcmp, 1)) (List.mem_of_getElem? (i := 16) rfl)
theorem dL_law__755 : decode cL_law_ 755 = .ok (.ifCond .eq 5, 3) := decG_9 (755, (.ifCond .eq 5, 3)) (List.mem_of_getElem? (i := 17) rfl)
theorem dL_law__758 : decode cL_law_ 758 = .ok (.iconst 0, 1) := decG_9 (758, (.iconst 0, 1)) (List.mem_of_getElem? (i := 18) rfl)
theorem dL_law__759 : decode cL_law_ 759 = .ok (.ireturn, 1) := decG_9 (759, (.ireturn, 1)) (List.mem_of_getElem? (i := 19) rfl)
theorem dL_law__760 : decode cL_law_ 760 = .ok (.goto 1631, 3) := decG_9 (760, (.goto 1631, 3)) (List.mem_of_getElem? (i := 20) rfl)
theorem dL_law__763 : decode cL_law_ 763 = .ok (.aload_n 1, 1) := decG_9 (763, (.aload_n 1, 1)) (List.mem_of_getElem? (i := 21) rfl)
theorem dL_law__764 : decode cL_law_ 764 = .ok (.aload_n 0, 1) := decG_9 (764, (.aload_n 0, 1)) (List.mem_of_getElem? (i := 22) rfl)
theorem dL_law__765 : decode cL_law_ 765 = .ok (.iload 4, 2) := decG_9 (765, (.iload 4, 2)) (List.mem_of_getElem? (i := 23) rfl)
theorem dL_law__767 : decode cL_law_ 767 = .ok (.iconst 1, 1) := decG_9 (767, (.iconst 1, 1)) (List.mem_of_getElem? (i := 24) rfl)
theorem dL_law__768 : decode cL_law_ 768 = .ok (.iadd, 1) := decG_9 (768, (.iadd, 1)) (List.mem_of_getElem? (i := 25) rfl)
theorem dL_law__769 : decode cL_law_ 769 = .ok (.iaload, 1) := decG_9 (769, (.iaload, 1)) (List.mem_of_getElem? (i := 26) rfl)
theorem dL_law__770 : decode cL_law_ 770 = .ok (.aload_n 0, 1) := decG_9 (770, (.aload_n 0, 1)) (List.mem_of_getElem? (i := 27) rfl)
theorem dL_law__771 : decode cL_law_ 771 = .ok (.iload 4, 2) := decG_9 (771, (.iload 4, 2)) (List.mem_of_getElem? (i := 28) rfl)
theorem dL_law__773 : decode cL_law_ 773 = .ok (.iconst 2, 1) := decG_9 (773, (.iconst 2, 1)) (List.mem_of_getElem? (i := 29) rfl)
theorem dL_law__774 : decode cL_law_ 774 = .ok (.iadd, 1) := decG_9 (774, (.iadd, 1)) (List.mem_of_getElem? (i := 30) rfl)
theorem dL_law__775 : decode cL_law_ 775 = .ok (.iaload, 1) := decG_9 (775, (.iaload, 1)) (List.mem_of_getElem? (i := 31) rfl)
theorem dL_law__776 : decode cL_law_ 776 = .ok (.ifCond .eq 7, 3) := decG_9 (776, (.ifCond .eq 7, 3)) (List.mem_of_getElem? (i := 32) rfl)
theorem dL_law__779 : decode cL_law_ 779 = .ok (.iconst 1, 1) := decG_9 (779, (.iconst 1, 1)) (List.mem_of_getElem? (i := 33) rfl)
theorem dL_law__780 : decode cL_law_ 780 = .ok (.goto 4, 3) := decG_9 (780, (.goto 4, 3)) (List.mem_of_getElem? (i := 34) rfl)
theorem dL_law__783 : decode cL_law_ 783 = .ok (.iconst 0, 1) := decG_9 (783, (.iconst 0, 1)) (List.mem_of_getElem? (i := 35) rfl)
theorem dL_law__784 : decode cL_law_ 784 = .ok (.aload_n 3, 1) := decG_9 (784, (.aload_n 3, 1)) (List.mem_of_getElem? (i := 36) rfl)
theorem dL_law__785 : decode cL_law_ 785 = .ok (.invokestatic 153, 3) := decG_9 (785, (.invokestatic 153, 3)) (List.mem_of_getElem? (i := 37) rfl)
theorem dL_law__788 : decode cL_law_ 788 = .ok (.istore 5, 2) := decG_9 (788, (.istore 5, 2)) (List.mem_of_getElem? (i := 38) rfl)
theorem dL_law__790 : decode cL_law_ 790 = .ok (.aload_n 2, 1) := decG_9 (790, (.aload_n 2, 1)) (List.mem_of_getElem? (i := 39) rfl)
set_option maxRecDepth 100000 in
theorem decG_10 : ∀ q ∈ ([(791, (.aload_n 0, 1)), (792, (.iload 4, 2)), (794, (.iconst 1, 1)), (795, (.iadd, 1)), (796, (.iaload, 1)), (797, (.aload_n 0, 1)), (798, (.iload 4, 2)), (800, (.iconst 2, 1)), (801, (.iadd, 1)), (802, (.iaload, 1)), (803, (.ifCond .eq 7, 3)), (806, (.iconst 1, 1)), (807, (.goto 4, 3)), (810, (.iconst 0, 1)), (811, (.invokevirtual 156, 3)), (814, (.istore 6, 2)), (816, (.aload_n 2, 1)), (817, (.invokevirtual 127, 3)), (820, (.iload 5, 2)), (822, (.if_icmp .eq 5, 3)), (825, (.iconst 0, 1)), (826, (.ireturn, 1)), (827, (.iload 5, 2)), (829, (.ifCond .ne 22, 3)), (832, (.aload_n 3, 1)), (833, (.iconst 0, 1)), (834, (.laload, 1)), (835, (.iload 6, 2)), (837, (.ifCond .eq 7, 3)), (840, (.lconst 1, 1)), (841, (.goto 4, 3)), (844, (.lconst 0, 1)), (845, (.lcmp, 1)), (846, (.ifCond .eq 5, 3)), (849, (.iconst 0, 1)), (850, (.ireturn, 1)), (851, (.goto 1540, 3)), (854, (.aload_n 1, 1)), (855, (.aload_n 0, 1)), (856, (.iload 4, 2))] : List (Nat × (Instr × Nat))), decode cL_law_ q.1 = .ok q.2 := by decide +kernel
theorem dL_law__791 : decode cL_law_ 791 = .ok (.aload_n 0, 1) := decG_10 (791, (.aload_n 0, 1)) (List.mem_of_getElem? (i := 0) rfl)
theorem dL_law__792 : decode cL_law_ 792 = .ok (.iload 4, 2) := decG_10 (792, (.iload 4, 2)) (List.mem_of_getElem? (i := 1) rfl)
theorem dL_law__794 : decode cL_law_ 794 = .ok (.iconst 1, 1) := decG_10 (794, (.iconst 1, 1)) (List.mem_of_getElem? (i := 2) rfl)
theorem dL_law__795 : decode cL_law_ 795 = .ok (.iadd, 1) := decG_10 (795, (.iadd, 1)) (List.mem_of_getElem? (i := 3) rfl)
theorem dL_law__796 : decode cL_law_ 796 = .ok (.iaload, 1) := decG_10 (796, (.iaload, 1)) (List.mem_of_getElem? (i := 4) rfl)
theorem dL_law__797 : decode cL_law_ 797 = .ok (.aload_n 0, 1) := decG_10 (797, (.aload_n 0, 1)) (List.mem_of_getElem? (i := 5) rfl)
theorem dL_law__798 : decode cL_law_ 798 = .ok (.iload 4, 2) := decG_10 (798, (.iload 4, 2)) (List.mem_of_getElem? (i := 6) rfl)
theorem dL_law__800 : decode cL_law_ 800 = .ok (.iconst 2, 1) := decG_10 (800, (.iconst 2, 1)) (List.mem_of_getElem? (i := 7) rfl)
theorem dL_law__801 : decode cL_law_ 801 = .ok (.iadd, 1) := decG_10 (801, (.iadd, 1)) (List.mem_of_getElem? (i := 8) rfl)
theorem dL_law__802 : decode cL_law_ 802 = .ok (.iaload, 1) := decG_10 (802, (.iaload, 1)) (List.mem_of_getElem? (i := 9) rfl)
theorem dL_law__803 : decode cL_law_ 803 = .ok (.ifCond .eq 7, 3) := decG_10 (803, (.ifCond .eq 7, 3)) (List.mem_of_getElem? (i := 10) rfl)
theorem dL_law__806 : decode cL_law_ 806 = .ok (.iconst 1, 1) := decG_10 (806, (.iconst 1, 1)) (List.mem_of_getElem? (i := 11) rfl)
theorem dL_law__807 : decode cL_law_ 807 = .ok (.goto 4, 3) := decG_10 (807, (.goto 4, 3)) (List.mem_of_getElem? (i := 12) rfl)
theorem dL_law__810 : decode cL_law_ 810 = .ok (.iconst 0, 1) := decG_10 (810, (.iconst 0, 1)) (List.mem_of_getElem? (i := 13) rfl)
theorem dL_law__811 : decode cL_law_ 811 = .ok (.invokevirtual 156, 3) := decG_10 (811, (.invokevirtual 156, 3)) (List.mem_of_getElem? (i := 14) rfl)
theorem dL_law__814 : decode cL_law_ 814 = .ok (.istore 6, 2) := decG_10 (814, (.istore 6, 2)) (List.mem_of_getElem? (i := 15) rfl)
theorem dL_law__816 : decode cL_law_ 816 = .ok (.aload_n 2, 1) := decG_10 (816, (.aload_n 2, 1)) (List.mem_of_getElem? (i := 16) rfl)
theorem dL_law__817 : decode cL_law_ 817 = .ok (.invokevirtual 127, 3) := decG_10 (817, (.invokevirtual 127, 3)) (List.mem_of_getElem? (i := 17) rfl)
theorem dL_law__820 : decode cL_law_ 820 = .ok (.iload 5, 2) := decG_10 (820, (.iload 5, 2)) (List.mem_of_getElem? (i := 18) rfl)
theorem dL_law__822 : decode cL_law_ 822 = .ok (.if_icmp .eq 5, 3) := decG_10 (822, (.if_icmp .eq 5, 3)) (List.mem_of_getElem? (i := 19) rfl)
theorem dL_law__825 : decode cL_law_ 825 = .ok (.iconst 0, 1) := decG_10 (825, (.iconst 0, 1)) (List.mem_of_getElem? (i := 20) rfl)
theorem dL_law__826 : decode cL_law_ 826 = .ok (.ireturn, 1) := decG_10 (826, (.ireturn, 1)) (List.mem_of_getElem? (i := 21) rfl)
theorem dL_law__827 : decode cL_law_ 827 = .ok (.iload 5, 2) := decG_10 (827, (.iload 5, 2)) (List.mem_of_getElem? (i := 22) rfl)
theorem dL_law__829 : decode cL_law_ 829 = .ok (.ifCond .ne 22, 3) := decG_10 (829, (.ifCond .ne 22, 3)) (List.mem_of_getElem? (i := 23) rfl)
theorem dL_law__832 : decode cL_law_ 832 = .ok (.aload_n 3, 1) := decG_10 (832, (.aload_n 3, 1)) (List.mem_of_getElem? (i := 24) rfl)
theorem dL_law__833 : decode cL_law_ 833 = .ok (.iconst 0, 1) := decG_10 (833, (.iconst 0, 1)) (List.mem_of_getElem? (i := 25) rfl)
theorem dL_law__834 : decode cL_law_ 834 = .ok (.laload, 1) := decG_10 (834, (.laload, 1)) (List.mem_of_getElem? (i := 26) rfl)
theorem dL_law__835 : decode cL_law_ 835 = .ok (.iload 6, 2) := decG_10 (835, (.iload 6, 2)) (List.mem_of_getElem? (i := 27) rfl)
theorem dL_law__837 : decode cL_law_ 837 = .ok (.ifCond .eq 7, 3) := decG_10 (837, (.ifCond .eq 7, 3)) (List.mem_of_getElem? (i := 28) rfl)
theorem dL_law__840 : decode cL_law_ 840 = .ok (.lconst 1, 1) := decG_10 (840, (.lconst 1, 1)) (List.mem_of_getElem? (i := 29) rfl)
theorem dL_law__841 : decode cL_law_ 841 = .ok (.goto 4, 3) := decG_10 (841, (.goto 4, 3)) (List.mem_of_getElem? (i := 30) rfl)
theorem dL_law__844 : decode cL_law_ 844 = .ok (.lconst 0, 1) := decG_10 (844, (.lconst 0, 1)) (List.mem_of_getElem? (i := 31) rfl)
theorem dL_law__845 : decode cL_law_ 845 = .ok (.lcmp, 1) := decG_10 (845, (.lcmp, 1)) (List.mem_of_getElem? (i := 32) rfl)
theorem dL_law__846 : decode cL_law_ 846 = .ok (.ifCond .eq 5, 3) := decG_10 (846, (.ifCond .eq 5, 3)) (List.mem_of_getElem? (i := 33) rfl)
theorem dL_law__849 : decode cL_law_ 849 = .ok (.iconst 0, 1) := decG_10 (849, (.iconst 0, 1)) (List.mem_of_getElem? (i := 34) rfl)
theorem dL_law__850 : decode cL_law_ 850 = .ok (.ireturn, 1) := decG_10 (850, (.ireturn, 1)) (List.mem_of_getElem? (i := 35) rfl)
theorem dL_law__851 : decode cL_law_ 851 = .ok (.goto 1540, 3) := decG_10 (851, (.goto 1540, 3)) (List.mem_of_getElem? (i := 36) rfl)
theorem dL_law__854 : decode cL_law_ 854 = .ok (.aload_n 1, 1) := decG_10 (854, (.aload_n 1, 1)) (List.mem_of_getElem? (i := 37) rfl)
theorem dL_law__855 : decode cL_law_ 855 = .ok (.aload_n 0, 1) := decG_10 (855, (.aload_n 0, 1)) (List.mem_of_getElem? (i := 38) rfl)
theorem dL_law__856 : decode cL_law_ 856 = .ok (.iload 4, 2) := decG_10 (856, (.iload 4, 2)) (List.mem_of_getElem? (i := 39) rfl)
set_option maxRecDepth 100000 in
theorem decG_11 : ∀ q ∈ ([(858, (.iconst 1, 1)), (859, (.iadd, 1)), (860, (.iaload, 1)), (861, (.aload_n 0, 1)), (862, (.iload 4, 2)), (864, (.iconst 2, 1)), (865, (.iadd, 1)), (866, (.iaload, 1)), (867, (.aload_n 3, 1)), (868, (.invokestatic 157, 3)), (871, (.istore 5, 2)), (873, (.aload_n 2, 1)), (874, (.aload_n 0, 1)), (875, (.iload 4, 2)), (877, (.iconst 1, 1)), (878, (.iadd, 1)), (879, (.iaload, 1)), (880, (.aload_n 0, 1)), (881, (.iload 4, 2)), (883, (.iconst 2, 1)), (884, (.iadd, 1)), (885, (.iaload, 1)), (886, (.invokevirtual 159, 3)), (889, (.istore 6, 2)), (891, (.aload_n 2, 1)), (892, (.invokevirtual 127, 3)), (895, (.iload 5, 2)), (897, (.if_icmp .eq 5, 3)), (900, (.iconst 0, 1)), (901, (.ireturn, 1)), (902, (.iload 5, 2)), (904, (.ifCond .ne 15, 3)), (907, (.aload_n 3, 1)), (908, (.iconst 0, 1)), (909, (.laload, 1)), (910, (.iload 6, 2)), (912, (.i2l, 1)), (913, (.lcmp, 1)), (914, (.ifCond .eq 5, 3)), (917, (.iconst 0, 1))] : List (Nat × (Instr × Nat))), decode cL_law_ q.1 = .ok q.2 := by decide +kernel
theorem dL_law__858 : decode cL_law_ 858 = .ok (.iconst 1, 1) := decG_11 (858, (.iconst 1, 1)) (List.mem_of_getElem? (i := 0) rfl)
theorem dL_law__859 : decode cL_law_ 859 = .ok (.iadd, 1) := decG_11 (859, (.iadd, 1)) (List.mem_of_getElem? (i := 1) rfl)
theorem dL_law__860 : decode cL_law_ 860 = .ok (.iaload, 1) := decG_11 (860, (.iaload, 1)) (List.mem_of_getElem? (i := 2) rfl)
theorem dL_law__861 : decode cL_law_ 861 = .ok (.aload_n 0, 1) := decG_11 (861, (.aload_n 0, 1)) (List.mem_of_getElem? (i := 3) rfl)
theorem dL_law__862 : decode cL_law_ 862 = .ok (.iload 4, 2) := decG_11 (862, (.iload 4, 2)) (List.mem_of_getElem? (i := 4) rfl)
theorem dL_law__864 : decode cL_law_ 864 = .ok (.iconst 2, 1) := decG_11 (864, (.iconst 2, 1)) (List.mem_of_getElem? (i := 5) rfl)
theorem dL_law__865 : decode cL_law_ 865 = .ok (.iadd, 1) := decG_11 (865, (.iadd, 1)) (List.mem_of_getElem? (i := 6) rfl)
theorem dL_law__866 : decode cL_law_ 866 = .ok (.iaload, 1) := decG_11 (866, (.iaload, 1)) (List.mem_of_getElem? (i := 7) rfl)
theorem dL_law__867 : decode cL_law_ 867 = .ok (.aload_n 3, 1) := decG_11 (867, (.aload_n 3, 1)) (List.mem_of_getElem? (i := 8) rfl)
theorem dL_law__868 : decode cL_law_ 868 = .ok (.invokestatic 157, 3) := decG_11 (868, (.invokestatic 157, 3)) (List.mem_of_getElem? (i := 9) rfl)
theorem dL_law__871 : decode cL_law_ 871 = .ok (.istore 5, 2) := decG_11 (871, (.istore 5, 2)) (List.mem_of_getElem? (i := 10) rfl)
theorem dL_law__873 : decode cL_law_ 873 = .ok (.aload_n 2, 1) := decG_11 (873, (.aload_n 2, 1)) (List.mem_of_getElem? (i := 11) rfl)
theorem dL_law__874 : decode cL_law_ 874 = .ok (.aload_n 0, 1) := decG_11 (874, (.aload_n 0, 1)) (List.mem_of_getElem? (i := 12) rfl)
theorem dL_law__875 : decode cL_law_ 875 = .ok (.iload 4, 2) := decG_11 (875, (.iload 4, 2)) (List.mem_of_getElem? (i := 13) rfl)
theorem dL_law__877 : decode cL_law_ 877 = .ok (.iconst 1, 1) := decG_11 (877, (.iconst 1, 1)) (List.mem_of_getElem? (i := 14) rfl)
theorem dL_law__878 : decode cL_law_ 878 = .ok (.iadd, 1) := decG_11 (878, (.iadd, 1)) (List.mem_of_getElem? (i := 15) rfl)
theorem dL_law__879 : decode cL_law_ 879 = .ok (.iaload, 1) := decG_11 (879, (.iaload, 1)) (List.mem_of_getElem? (i := 16) rfl)
theorem dL_law__880 : decode cL_law_ 880 = .ok (.aload_n 0, 1) := decG_11 (880, (.aload_n 0, 1)) (List.mem_of_getElem? (i := 17) rfl)
theorem dL_law__881 : decode cL_law_ 881 = .ok (.iload 4, 2) := decG_11 (881, (.iload 4, 2)) (List.mem_of_getElem? (i := 18) rfl)
theorem dL_law__883 : decode cL_law_ 883 = .ok (.iconst 2, 1) := decG_11 (883, (.iconst 2, 1)) (List.mem_of_getElem? (i := 19) rfl)
theorem dL_law__884 : decode cL_law_ 884 = .ok (.iadd, 1) := decG_11 (884, (.iadd, 1)) (List.mem_of_getElem? (i := 20) rfl)
theorem dL_law__885 : decode cL_law_ 885 = .ok (.iaload, 1) := decG_11 (885, (.iaload, 1)) (List.mem_of_getElem? (i := 21) rfl)
theorem dL_law__886 : decode cL_law_ 886 = .ok (.invokevirtual 159, 3) := decG_11 (886, (.invokevirtual 159, 3)) (List.mem_of_getElem? (i := 22) rfl)
theorem dL_law__889 : decode cL_law_ 889 = .ok (.istore 6, 2) := decG_11 (889, (.istore 6, 2)) (List.mem_of_getElem? (i := 23) rfl)
theorem dL_law__891 : decode cL_law_ 891 = .ok (.aload_n 2, 1) := decG_11 (891, (.aload_n 2, 1)) (List.mem_of_getElem? (i := 24) rfl)
theorem dL_law__892 : decode cL_law_ 892 = .ok (.invokevirtual 127, 3) := decG_11 (892, (.invokevirtual 127, 3)) (List.mem_of_getElem? (i := 25) rfl)
theorem dL_law__895 : decode cL_law_ 895 = .ok (.iload 5, 2) := decG_11 (895, (.iload 5, 2)) (List.mem_of_getElem? (i := 26) rfl)
theorem dL_law__897 : decode cL_law_ 897 = .ok (.if_icmp .eq 5, 3) := decG_11 (897, (.if_icmp .eq 5, 3)) (List.mem_of_getElem? (i := 27) rfl)
theorem dL_law__900 : decode cL_law_ 900 = .ok (.iconst 0, 1) := decG_11 (900, (.iconst 0, 1)) (List.mem_of_getElem? (i := 28) rfl)
theorem dL_law__901 : decode cL_law_ 901 = .ok (.ireturn, 1) := decG_11 (901, (.ireturn, 1)) (List.mem_of_getElem? (i := 29) rfl)
theorem dL_law__902 : decode cL_law_ 902 = .ok (.iload 5, 2) := decG_11 (902, (.iload 5, 2)) (List.mem_of_getElem? (i := 30) rfl)
theorem dL_law__904 : decode cL_law_ 904 = .ok (.ifCond .ne 15, 3) := decG_11 (904, (.ifCond .ne 15, 3)) (List.mem_of_getElem? (i := 31) rfl)
theorem dL_law__907 : decode cL_law_ 907 = .ok (.aload_n 3, 1) := decG_11 (907, (.aload_n 3, 1)) (List.mem_of_getElem? (i := 32) rfl)
theorem dL_law__908 : decode cL_law_ 908 = .ok (.iconst 0, 1) := decG_11 (908, (.iconst 0, 1)) (List.mem_of_getElem? (i := 33) rfl)
theorem dL_law__909 : decode cL_law_ 909 = .ok (.laload, 1) := decG_11 (909, (.laload, 1)) (List.mem_of_getElem? (i := 34) rfl)
theorem dL_law__910 : decode cL_law_ 910 = .ok (.iload 6, 2) := decG_11 (910, (.iload 6, 2)) (List.mem_of_getElem? (i := 35) rfl)
theorem dL_law__912 : decode cL_law_ 912 = .ok (.i2l, 1) := decG_11 (912, (.i2l, 1)) (List.mem_of_getElem? (i := 36) rfl)
theorem dL_law__913 : decode cL_law_ 913 = .ok (.lcmp, 1) := decG_11 (913, (.lcmp, 1)) (List.mem_of_getElem? (i := 37) rfl)
theorem dL_law__914 : decode cL_law_ 914 = .ok (.ifCond .eq 5, 3) := decG_11 (914, (.ifCond .eq 5, 3)) (List.mem_of_getElem? (i := 38) rfl)
theorem dL_law__917 : decode cL_law_ 917 = .ok (.iconst 0, 1) := decG_11 (917, (.iconst 0, 1)) (List.mem_of_getElem? (i := 39) rfl)
set_option maxRecDepth 100000 in
theorem decG_12 : ∀ q ∈ ([(918, (.ireturn, 1)), (919, (.goto 1472, 3)), (922, (.aload_n 1, 1)), (923, (.aload_n 0, 1)), (924, (.iload 4, 2)), (926, (.iconst 1, 1)), (927, (.iadd, 1)), (928, (.iaload, 1)), (929, (.aload_n 0, 1)), (930, (.iload 4, 2)), (932, (.iconst 2, 1)), (933, (.iadd, 1)), (934, (.iaload, 1)), (935, (.aload_n 0, 1)), (936, (.iload 4, 2)), (938, (.iconst 3, 1)), (939, (.iadd, 1)), (940, (.iaload, 1)), (941, (.ifCond .eq 7, 3)), (944, (.iconst 1, 1)), (945, (.goto 4, 3)), (948, (.iconst 0, 1)), (949, (.aload_n 3, 1)), (950, (.invokestatic 160, 3)), (953, (.istore 5, 2)), (955, (.aload_n 2, 1)), (956, (.aload_n 0, 1)), (957, (.iload 4, 2)), (959, (.iconst 1, 1)), (960, (.iadd, 1)), (961, (.iaload, 1)), (962, (.aload_n 0, 1)), (963, (.iload 4, 2)), (965, (.iconst 2, 1)), (966, (.iadd, 1)), (967, (.iaload, 1)), (968, (.aload_n 0, 1)), (969, (.iload 4, 2)), (971, (.iconst 3, 1)), (972, (.iadd, 1))] : List (Nat × (Instr × Nat))), decode cL_law_ q.1 = .ok q.2 := by decide +kernel
theorem dL_law__918 : decode cL_law_ 918 = .ok (.ireturn, 1) := decG_12 (918, (.ireturn, 1)) (List.mem_of_getElem? (i := 0) rfl)
theorem dL_law__919 : decode cL_law_ 919 = .ok (.goto 1472, 3) := decG_12 (919, (.goto 1472, 3)) (List.mem_of_getElem? (i := 1) rfl)
theorem dL_law__922 : decode cL_law_ 922 = .ok (.aload_n 1, 1) := decG_12 (922, (.aload_n 1, 1)) (List.mem_of_getElem? (i := 2) rfl)
theorem dL_law__923 : decode cL_law_ 923 = .ok (.aload_n 0, 1) := decG_12 (923, (.aload_n 0, 1)) (List.mem_of_getElem? (i := 3) rfl)
theorem dL_law__924 : decode cL_law_ 924 = .ok (.iload 4, 2) := decG_12 (924, (.iload 4, 2)) (List.mem_of_getElem? (i := 4) rfl)
theorem dL_law__926 : decode cL_law_ 926 = .ok (.iconst 1, 1) := decG_12 (926, (.iconst 1, 1)) (List.mem_of_getElem? (i := 5) rfl)
theorem dL_law__927 : decode cL_law_ 927 = .ok (.iadd, 1) := decG_12 (927, (.iadd, 1)) (List.mem_of_getElem? (i := 6) rfl)
theorem dL_law__928 : decode cL_law_ 928 = .ok (.iaload, 1) := decG_12 (928, (.iaload, 1)) (List.mem_of_getElem? (i := 7) rfl)
theorem dL_law__929 : decode cL_law_ 929 = .ok (.aload_n 0, 1) := decG_12 (929, (.aload_n 0, 1)) (List.mem_of_getElem? (i := 8) rfl)
theorem dL_law__930 : decode cL_law_ 930 = .ok (.iload 4, 2) := decG_12 (930, (.iload 4, 2)) (List.mem_of_getElem? (i := 9) rfl)
theorem dL_law__932 : decode cL_law_ 932 = .ok (.iconst 2, 1) := decG_12 (932, (.iconst 2, 1)) (List.mem_of_getElem? (i := 10) rfl)
theorem dL_law__933 : decode cL_law_ 933 = .ok (.iadd, 1) := decG_12 (933, (.iadd, 1)) (List.mem_of_getElem? (i := 11) rfl)
theorem dL_law__934 : decode cL_law_ 934 = .ok (.iaload, 1) := decG_12 (934, (.iaload, 1)) (List.mem_of_getElem? (i := 12) rfl)
theorem dL_law__935 : decode cL_law_ 935 = .ok (.aload_n 0, 1) := decG_12 (935, (.aload_n 0, 1)) (List.mem_of_getElem? (i := 13) rfl)
theorem dL_law__936 : decode cL_law_ 936 = .ok (.iload 4, 2) := decG_12 (936, (.iload 4, 2)) (List.mem_of_getElem? (i := 14) rfl)
theorem dL_law__938 : decode cL_law_ 938 = .ok (.iconst 3, 1) := decG_12 (938, (.iconst 3, 1)) (List.mem_of_getElem? (i := 15) rfl)
theorem dL_law__939 : decode cL_law_ 939 = .ok (.iadd, 1) := decG_12 (939, (.iadd, 1)) (List.mem_of_getElem? (i := 16) rfl)
theorem dL_law__940 : decode cL_law_ 940 = .ok (.iaload, 1) := decG_12 (940, (.iaload, 1)) (List.mem_of_getElem? (i := 17) rfl)
theorem dL_law__941 : decode cL_law_ 941 = .ok (.ifCond .eq 7, 3) := decG_12 (941, (.ifCond .eq 7, 3)) (List.mem_of_getElem? (i := 18) rfl)
theorem dL_law__944 : decode cL_law_ 944 = .ok (.iconst 1, 1) := decG_12 (944, (.iconst 1, 1)) (List.mem_of_getElem? (i := 19) rfl)
theorem dL_law__945 : decode cL_law_ 945 = .ok (.goto 4, 3) := decG_12 (945, (.goto 4, 3)) (List.mem_of_getElem? (i := 20) rfl)
theorem dL_law__948 : decode cL_law_ 948 = .ok (.iconst 0, 1) := decG_12 (948, (.iconst 0, 1)) (List.mem_of_getElem? (i := 21) rfl)
theorem dL_law__949 : decode cL_law_ 949 = .ok (.aload_n 3, 1) := decG_12 (949, (.aload_n 3, 1)) (List.mem_of_getElem? (i := 22) rfl)
theorem dL_law__950 : decode cL_law_ 950 = .ok (.invokestatic 160, 3) := decG_12 (950, (.invokestatic 160, 3)) (List.mem_of_getElem? (i := 23) rfl)
theorem dL_law__953 : decode cL_law_ 953 = .ok (.istore 5, 2) := decG_12 (953, (.istore 5, 2)) (List.mem_of_getElem? (i := 24) rfl)
theorem dL_law__955 : decode cL_law_ 955 = .ok (.aload_n 2, 1) := decG_12 (955, (.aload_n 2, 1)) (List.mem_of_getElem? (i := 25) rfl)
theorem dL_law__956 : decode cL_law_ 956 = .ok (.aload_n 0, 1) := decG_12 (956, (.aload_n 0, 1)) (List.mem_of_getElem? (i := 26) rfl)
theorem dL_law__957 : decode cL_law_ 957 = .ok (.iload 4, 2) := decG_12 (957, (.iload 4, 2)) (List.mem_of_getElem? (i := 27) rfl)
theorem dL_law__959 : decode cL_law_ 959 = .ok (.iconst 1, 1) := decG_12 (959, (.iconst 1, 1)) (List.mem_of_getElem? (i := 28) rfl)
theorem dL_law__960 : decode cL_law_ 960 = .ok (.iadd, 1) := decG_12 (960, (.iadd, 1)) (List.mem_of_getElem? (i := 29) rfl)
theorem dL_law__961 : decode cL_law_ 961 = .ok (.iaload, 1) := decG_12 (961, (.iaload, 1)) (List.mem_of_getElem? (i := 30) rfl)
theorem dL_law__962 : decode cL_law_ 962 = .ok (.aload_n 0, 1) := decG_12 (962, (.aload_n 0, 1)) (List.mem_of_getElem? (i := 31) rfl)
theorem dL_law__963 : decode cL_law_ 963 = .ok (.iload 4, 2) := decG_12 (963, (.iload 4, 2)) (List.mem_of_getElem? (i := 32) rfl)
theorem dL_law__965 : decode cL_law_ 965 = .ok (.iconst 2, 1) := decG_12 (965, (.iconst 2, 1)) (List.mem_of_getElem? (i := 33) rfl)
theorem dL_law__966 : decode cL_law_ 966 = .ok (.iadd, 1) := decG_12 (966, (.iadd, 1)) (List.mem_of_getElem? (i := 34) rfl)
theorem dL_law__967 : decode cL_law_ 967 = .ok (.iaload, 1) := decG_12 (967, (.iaload, 1)) (List.mem_of_getElem? (i := 35) rfl)
theorem dL_law__968 : decode cL_law_ 968 = .ok (.aload_n 0, 1) := decG_12 (968, (.aload_n 0, 1)) (List.mem_of_getElem? (i := 36) rfl)
theorem dL_law__969 : decode cL_law_ 969 = .ok (.iload 4, 2) := decG_12 (969, (.iload 4, 2)) (List.mem_of_getElem? (i := 37) rfl)
theorem dL_law__971 : decode cL_law_ 971 = .ok (.iconst 3, 1) := decG_12 (971, (.iconst 3, 1)) (List.mem_of_getElem? (i := 38) rfl)
theorem dL_law__972 : decode cL_law_ 972 = .ok (.iadd, 1) := decG_12 (972, (.iadd, 1)) (List.mem_of_getElem? (i := 39) rfl)
set_option maxRecDepth 100000 in
theorem decG_13 : ∀ q ∈ ([(973, (.iaload, 1)), (974, (.ifCond .eq 7, 3)), (977, (.iconst 1, 1)), (978, (.goto 4, 3)), (981, (.iconst 0, 1)), (982, (.invokevirtual 163, 3)), (985, (.istore 6, 2)), (987, (.aload_n 2, 1)), (988, (.invokevirtual 127, 3)), (991, (.iload 5, 2)), (993, (.if_icmp .eq 5, 3)), (996, (.iconst 0, 1)), (997, (.ireturn, 1)), (998, (.iload 5, 2)), (1000, (.ifCond .ne 22, 3)), (1003, (.aload_n 3, 1)), (1004, (.iconst 0, 1)), (1005, (.laload, 1)), (1006, (.iload 6, 2)), (1008, (.ifCond .eq 7, 3)), (1011, (.lconst 1, 1)), (1012, (.goto 4, 3)), (1015, (.lconst 0, 1)), (1016, (.lcmp, 1)), (1017, (.ifCond .eq 5, 3)), (1020, (.iconst 0, 1)), (1021, (.ireturn, 1)), (1022, (.goto 1369, 3)), (1025, (.aload_n 1, 1)), (1026, (.aload_n 0, 1)), (1027, (.iload 4, 2)), (1029, (.iconst 1, 1)), (1030, (.iadd, 1)), (1031, (.iaload, 1)), (1032, (.aload_n 0, 1)), (1033, (.iload 4, 2)), (1035, (.iconst 2, 1)), (1036, (.iadd, 1)), (1037, (.iaload, 1)), (1038, (.invokestatic 164, 3))] : List (Nat × (Instr × Nat))), decode cL_law_ q.1 = .ok q.2 := by decide +kernel
theorem dL_law__973 : decode cL_law_ 973 = .ok (.iaload, 1) := decG_13 (973, (.iaload, 1)) (List.mem_of_getElem? (i := 0) rfl)
theorem dL_law__974 : decode cL_law_ 974 = .ok (.ifCond .eq 7, 3) := decG_13 (974, (.ifCond .eq 7, 3)) (List.mem_of_getElem? (i := 1) rfl)
theorem dL_law__977 : decode cL_law_ 977 = .ok (.iconst 1, 1) := decG_13 (977, (.iconst 1, 1)) (List.mem_of_getElem? (i := 2) rfl)
theorem dL_law__978 : decode cL_law_ 978 = .ok (.goto 4, 3) := decG_13 (978, (.goto 4, 3)) (List.mem_of_getElem? (i := 3) rfl)
theorem dL_law__981 : decode cL_law_ 981 = .ok (.iconst 0, 1) := decG_13 (981, (.iconst 0, 1)) (List.mem_of_getElem? (i := 4) rfl)
theorem dL_law__982 : decode cL_law_ 982 = .ok (.invokevirtual 163, 3) := decG_13 (982, (.invokevirtual 163, 3)) (List.mem_of_getElem? (i := 5) rfl)
theorem dL_law__985 : decode cL_law_ 985 = .ok (.istore 6, 2) := decG_13 (985, (.istore 6, 2)) (List.mem_of_getElem? (i := 6) rfl)
theorem dL_law__987 : decode cL_law_ 987 = .ok (.aload_n 2, 1) := decG_13 (987, (.aload_n 2, 1)) (List.mem_of_getElem? (i := 7) rfl)
theorem dL_law__988 : decode cL_law_ 988 = .ok (.invokevirtual 127, 3) := decG_13 (988, (.invokevirtual 127, 3)) (List.mem_of_getElem? (i := 8) rfl)
theorem dL_law__991 : decode cL_law_ 991 = .ok (.iload 5, 2) := decG_13 (991, (.iload 5, 2)) (List.mem_of_getElem? (i := 9) rfl)
theorem dL_law__993 : decode cL_law_ 993 = .ok (.if_icmp .eq 5, 3) := decG_13 (993, (.if_icmp .eq 5, 3)) (List.mem_of_getElem? (i := 10) rfl)
theorem dL_law__996 : decode cL_law_ 996 = .ok (.iconst 0, 1) := decG_13 (996, (.iconst 0, 1)) (List.mem_of_getElem? (i := 11) rfl)
theorem dL_law__997 : decode cL_law_ 997 = .ok (.ireturn, 1) := decG_13 (997, (.ireturn, 1)) (List.mem_of_getElem? (i := 12) rfl)
theorem dL_law__998 : decode cL_law_ 998 = .ok (.iload 5, 2) := decG_13 (998, (.iload 5, 2)) (List.mem_of_getElem? (i := 13) rfl)
theorem dL_law__1000 : decode cL_law_ 1000 = .ok (.ifCond .ne 22, 3) := decG_13 (1000, (.ifCond .ne 22, 3)) (List.mem_of_getElem? (i := 14) rfl)
theorem dL_law__1003 : decode cL_law_ 1003 = .ok (.aload_n 3, 1) := decG_13 (1003, (.aload_n 3, 1)) (List.mem_of_getElem? (i := 15) rfl)
theorem dL_law__1004 : decode cL_law_ 1004 = .ok (.iconst 0, 1) := decG_13 (1004, (.iconst 0, 1)) (List.mem_of_getElem? (i := 16) rfl)
theorem dL_law__1005 : decode cL_law_ 1005 = .ok (.laload, 1) := decG_13 (1005, (.laload, 1)) (List.mem_of_getElem? (i := 17) rfl)
theorem dL_law__1006 : decode cL_law_ 1006 = .ok (.iload 6, 2) := decG_13 (1006, (.iload 6, 2)) (List.mem_of_getElem? (i := 18) rfl)
theorem dL_law__1008 : decode cL_law_ 1008 = .ok (.ifCond .eq 7, 3) := decG_13 (1008, (.ifCond .eq 7, 3)) (List.mem_of_getElem? (i := 19) rfl)
theorem dL_law__1011 : decode cL_law_ 1011 = .ok (.lconst 1, 1) := decG_13 (1011, (.lconst 1, 1)) (List.mem_of_getElem? (i := 20) rfl)
theorem dL_law__1012 : decode cL_law_ 1012 = .ok (.goto 4, 3) := decG_13 (1012, (.goto 4, 3)) (List.mem_of_getElem? (i := 21) rfl)
theorem dL_law__1015 : decode cL_law_ 1015 = .ok (.lconst 0, 1) := decG_13 (1015, (.lconst 0, 1)) (List.mem_of_getElem? (i := 22) rfl)
theorem dL_law__1016 : decode cL_law_ 1016 = .ok (.lcmp, 1) := decG_13 (1016, (.lcmp, 1)) (List.mem_of_getElem? (i := 23) rfl)
theorem dL_law__1017 : decode cL_law_ 1017 = .ok (.ifCond .eq 5, 3) := decG_13 (1017, (.ifCond .eq 5, 3)) (List.mem_of_getElem? (i := 24) rfl)
theorem dL_law__1020 : decode cL_law_ 1020 = .ok (.iconst 0, 1) := decG_13 (1020, (.iconst 0, 1)) (List.mem_of_getElem? (i := 25) rfl)
theorem dL_law__1021 : decode cL_law_ 1021 = .ok (.ireturn, 1) := decG_13 (1021, (.ireturn, 1)) (List.mem_of_getElem? (i := 26) rfl)
theorem dL_law__1022 : decode cL_law_ 1022 = .ok (.goto 1369, 3) := decG_13 (1022, (.goto 1369, 3)) (List.mem_of_getElem? (i := 27) rfl)
theorem dL_law__1025 : decode cL_law_ 1025 = .ok (.aload_n 1, 1) := decG_13 (1025, (.aload_n 1, 1)) (List.mem_of_getElem? (i := 28) rfl)
theorem dL_law__1026 : decode cL_law_ 1026 = .ok (.aload_n 0, 1) := decG_13 (1026, (.aload_n 0, 1)) (List.mem_of_getElem? (i := 29) rfl)
theorem dL_law__1027 : decode cL_law_ 1027 = .ok (.iload 4, 2) := decG_13 (1027, (.iload 4, 2)) (List.mem_of_getElem? (i := 30) rfl)
theorem dL_law__1029 : decode cL_law_ 1029 = .ok (.iconst 1, 1) := decG_13 (1029, (.iconst 1, 1)) (List.mem_of_getElem? (i := 31) rfl)
theorem dL_law__1030 : decode cL_law_ 1030 = .ok (.iadd, 1) := decG_13 (1030, (.iadd, 1)) (List.mem_of_getElem? (i := 32) rfl)
theorem dL_law__1031 : decode cL_law_ 1031 = .ok (.iaload, 1) := decG_13 (1031, (.iaload, 1)) (List.mem_of_getElem? (i := 33) rfl)
theorem dL_law__1032 : decode cL_law_ 1032 = .ok (.aload_n 0, 1) := decG_13 (1032, (.aload_n 0, 1)) (List.mem_of_getElem? (i := 34) rfl)
theorem dL_law__1033 : decode cL_law_ 1033 = .ok (.iload 4, 2) := decG_13 (1033, (.iload 4, 2)) (List.mem_of_getElem? (i := 35) rfl)
theorem dL_law__1035 : decode cL_law_ 1035 = .ok (.iconst 2, 1) := decG_13 (1035, (.iconst 2, 1)) (List.mem_of_getElem? (i := 36) rfl)
theorem dL_law__1036 : decode cL_law_ 1036 = .ok (.iadd, 1) := decG_13 (1036, (.iadd, 1)) (List.mem_of_getElem? (i := 37) rfl)
theorem dL_law__1037 : decode cL_law_ 1037 = .ok (.iaload, 1) := decG_13 (1037, (.iaload, 1)) (List.mem_of_getElem? (i := 38) rfl)
theorem dL_law__1038 : decode cL_law_ 1038 = .ok (.invokestatic 164, 3) := decG_13 (1038, (.invokestatic 164, 3)) (List.mem_of_getElem? (i := 39) rfl)
set_option maxRecDepth 100000 in
theorem decG_14 : ∀ q ∈ ([(1041, (.istore 5, 2)), (1043, (.aload_n 2, 1)), (1044, (.aload_n 0, 1)), (1045, (.iload 4, 2)), (1047, (.iconst 1, 1)), (1048, (.iadd, 1)), (1049, (.iaload, 1)), (1050, (.aload_n 0, 1)), (1051, (.iload 4, 2)), (1053, (.iconst 2, 1)), (1054, (.iadd, 1)), (1055, (.iaload, 1)), (1056, (.invokevirtual 167, 3)), (1059, (.aload_n 2, 1)), (1060, (.invokevirtual 127, 3)), (1063, (.iload 5, 2)), (1065, (.if_icmp .eq 5, 3)), (1068, (.iconst 0, 1)), (1069, (.ireturn, 1)), (1070, (.goto 1321, 3)), (1073, (.aload_n 1, 1)), (1074, (.aload_n 0, 1)), (1075, (.iload 4, 2)), (1077, (.iconst 1, 1)), (1078, (.iadd, 1)), (1079, (.iaload, 1)), (1080, (.aload_n 3, 1)), (1081, (.invokestatic 168, 3)), (1084, (.istore 5, 2)), (1086, (.aload_n 2, 1)), (1087, (.aload_n 0, 1)), (1088, (.iload 4, 2)), (1090, (.iconst 1, 1)), (1091, (.iadd, 1)), (1092, (.iaload, 1)), (1093, (.invokevirtual 171, 3)), (1096, (.istore 6, 2)), (1098, (.aload_n 2, 1)), (1099, (.invokevirtual 127, 3)), (1102, (.iload 5, 2))] : List (Nat × (Instr × Nat))), decode cL_law_ q.1 = .ok q.2 := by decide +kernel
theorem dL_law__1041 : decode cL_law_ 1041 = .ok (.istore 5, 2) := decG_14 (1041, (.istore 5, 2)) (List.mem_of_getElem? (i := 0) rfl)
theorem dL_law__1043 : decode cL_law_ 1043 = .ok (.aload_n 2, 1) := decG_14 (1043, (.aload_n 2, 1)) (List.mem_of_getElem? (i := 1) rfl)
theorem dL_law__1044 : decode cL_law_ 1044 = .ok (.aload_n 0, 1) := decG_14 (1044, (.aload_n 0, 1)) (List.mem_of_getElem? (i := 2) rfl)
theorem dL_law__1045 : decode cL_law_ 1045 = .ok (.iload 4, 2) := decG_14 (1045, (.iload 4, 2)) (List.mem_of_getElem? (i := 3) rfl)
theorem dL_law__1047 : decode cL_law_ 1047 = .ok (.iconst 1, 1) := decG_14 (1047, (.iconst 1, 1)) (List.mem_of_getElem? (i := 4) rfl)
theorem dL_law__1048 : decode cL_law_ 1048 = .ok (.iadd, 1) := decG_14 (1048, (.iadd, 1)) (List.mem_of_getElem? (i := 5) rfl)
theorem dL_law__1049 : decode cL_law_ 1049 = .ok (.iaload, 1) := decG_14 (1049, (.iaload, 1)) (List.mem_of_getElem? (i := 6) rfl)
theorem dL_law__1050 : decode cL_law_ 1050 = .ok (.aload_n 0, 1) := decG_14 (1050, (.aload_n 0, 1)) (List.mem_of_getElem? (i := 7) rfl)
theorem dL_law__1051 : decode cL_law_ 1051 = .ok (.iload 4, 2) := decG_14 (1051, (.iload 4, 2)) (List.mem_of_getElem? (i := 8) rfl)
theorem dL_law__1053 : decode cL_law_ 1053 = .ok (.iconst 2, 1) := decG_14 (1053, (.iconst 2, 1)) (List.mem_of_getElem? (i := 9) rfl)
theorem dL_law__1054 : decode cL_law_ 1054 = .ok (.iadd, 1) := decG_14 (1054, (.iadd, 1)) (List.mem_of_getElem? (i := 10) rfl)
theorem dL_law__1055 : decode cL_law_ 1055 = .ok (.iaload, 1) := decG_14 (1055, (.iaload, 1)) (List.mem_of_getElem? (i := 11) rfl)
theorem dL_law__1056 : decode cL_law_ 1056 = .ok (.invokevirtual 167, 3) := decG_14 (1056, (.invokevirtual 167, 3)) (List.mem_of_getElem? (i := 12) rfl)
theorem dL_law__1059 : decode cL_law_ 1059 = .ok (.aload_n 2, 1) := decG_14 (1059, (.aload_n 2, 1)) (List.mem_of_getElem? (i := 13) rfl)
theorem dL_law__1060 : decode cL_law_ 1060 = .ok (.invokevirtual 127, 3) := decG_14 (1060, (.invokevirtual 127, 3)) (List.mem_of_getElem? (i := 14) rfl)
theorem dL_law__1063 : decode cL_law_ 1063 = .ok (.iload 5, 2) := decG_14 (1063, (.iload 5, 2)) (List.mem_of_getElem? (i := 15) rfl)
theorem dL_law__1065 : decode cL_law_ 1065 = .ok (.if_icmp .eq 5, 3) := decG_14 (1065, (.if_icmp .eq 5, 3)) (List.mem_of_getElem? (i := 16) rfl)
theorem dL_law__1068 : decode cL_law_ 1068 = .ok (.iconst 0, 1) := decG_14 (1068, (.iconst 0, 1)) (List.mem_of_getElem? (i := 17) rfl)
theorem dL_law__1069 : decode cL_law_ 1069 = .ok (.ireturn, 1) := decG_14 (1069, (.ireturn, 1)) (List.mem_of_getElem? (i := 18) rfl)
theorem dL_law__1070 : decode cL_law_ 1070 = .ok (.goto 1321, 3) := decG_14 (1070, (.goto 1321, 3)) (List.mem_of_getElem? (i := 19) rfl)
theorem dL_law__1073 : decode cL_law_ 1073 = .ok (.aload_n 1, 1) := decG_14 (1073, (.aload_n 1, 1)) (List.mem_of_getElem? (i := 20) rfl)
theorem dL_law__1074 : decode cL_law_ 1074 = .ok (.aload_n 0, 1) := decG_14 (1074, (.aload_n 0, 1)) (List.mem_of_getElem? (i := 21) rfl)
theorem dL_law__1075 : decode cL_law_ 1075 = .ok (.iload 4, 2) := decG_14 (1075, (.iload 4, 2)) (List.mem_of_getElem? (i := 22) rfl)
theorem dL_law__1077 : decode cL_law_ 1077 = .ok (.iconst 1, 1) := decG_14 (1077, (.iconst 1, 1)) (List.mem_of_getElem? (i := 23) rfl)
theorem dL_law__1078 : decode cL_law_ 1078 = .ok (.iadd, 1) := decG_14 (1078, (.iadd, 1)) (List.mem_of_getElem? (i := 24) rfl)
theorem dL_law__1079 : decode cL_law_ 1079 = .ok (.iaload, 1) := decG_14 (1079, (.iaload, 1)) (List.mem_of_getElem? (i := 25) rfl)
theorem dL_law__1080 : decode cL_law_ 1080 = .ok (.aload_n 3, 1) := decG_14 (1080, (.aload_n 3, 1)) (List.mem_of_getElem? (i := 26) rfl)
theorem dL_law__1081 : decode cL_law_ 1081 = .ok (.invokestatic 168, 3) := decG_14 (1081, (.invokestatic 168, 3)) (List.mem_of_getElem? (i := 27) rfl)
theorem dL_law__1084 : decode cL_law_ 1084 = .ok (.istore 5, 2) := decG_14 (1084, (.istore 5, 2)) (List.mem_of_getElem? (i := 28) rfl)
theorem dL_law__1086 : decode cL_law_ 1086 = .ok (.aload_n 2, 1) := decG_14 (1086, (.aload_n 2, 1)) (List.mem_of_getElem? (i := 29) rfl)
theorem dL_law__1087 : decode cL_law_ 1087 = .ok (.aload_n 0, 1) := decG_14 (1087, (.aload_n 0, 1)) (List.mem_of_getElem? (i := 30) rfl)
theorem dL_law__1088 : decode cL_law_ 1088 = .ok (.iload 4, 2) := decG_14 (1088, (.iload 4, 2)) (List.mem_of_getElem? (i := 31) rfl)
theorem dL_law__1090 : decode cL_law_ 1090 = .ok (.iconst 1, 1) := decG_14 (1090, (.iconst 1, 1)) (List.mem_of_getElem? (i := 32) rfl)
theorem dL_law__1091 : decode cL_law_ 1091 = .ok (.iadd, 1) := decG_14 (1091, (.iadd, 1)) (List.mem_of_getElem? (i := 33) rfl)
theorem dL_law__1092 : decode cL_law_ 1092 = .ok (.iaload, 1) := decG_14 (1092, (.iaload, 1)) (List.mem_of_getElem? (i := 34) rfl)
theorem dL_law__1093 : decode cL_law_ 1093 = .ok (.invokevirtual 171, 3) := decG_14 (1093, (.invokevirtual 171, 3)) (List.mem_of_getElem? (i := 35) rfl)
theorem dL_law__1096 : decode cL_law_ 1096 = .ok (.istore 6, 2) := decG_14 (1096, (.istore 6, 2)) (List.mem_of_getElem? (i := 36) rfl)
theorem dL_law__1098 : decode cL_law_ 1098 = .ok (.aload_n 2, 1) := decG_14 (1098, (.aload_n 2, 1)) (List.mem_of_getElem? (i := 37) rfl)
theorem dL_law__1099 : decode cL_law_ 1099 = .ok (.invokevirtual 127, 3) := decG_14 (1099, (.invokevirtual 127, 3)) (List.mem_of_getElem? (i := 38) rfl)
theorem dL_law__1102 : decode cL_law_ 1102 = .ok (.iload 5, 2) := decG_14 (1102, (.iload 5, 2)) (List.mem_of_getElem? (i := 39) rfl)
set_option maxRecDepth 100000 in
theorem decG_15 : ∀ q ∈ ([(1104, (.if_icmp .eq 5, 3)), (1107, (.iconst 0, 1)), (1108, (.ireturn, 1)), (1109, (.iload 5, 2)), (1111, (.ifCond .ne 15, 3)), (1114, (.aload_n 3, 1)), (1115, (.iconst 0, 1)), (1116, (.laload, 1)), (1117, (.iload 6, 2)), (1119, (.i2l, 1)), (1120, (.lcmp, 1)), (1121, (.ifCond .eq 5, 3)), (1124, (.iconst 0, 1)), (1125, (.ireturn, 1)), (1126, (.goto 1265, 3)), (1129, (.aload_n 1, 1)), (1130, (.invokevirtual 172, 3)), (1133, (.aload_n 2, 1)), (1134, (.invokevirtual 175, 3)), (1137, (.if_icmp .eq 1254, 3)), (1140, (.iconst 0, 1)), (1141, (.ireturn, 1)), (1142, (.aload_n 1, 1)), (1143, (.invokevirtual 176, 3)), (1146, (.aload_n 2, 1)), (1147, (.invokevirtual 179, 3)), (1150, (.if_icmp .eq 1241, 3)), (1153, (.iconst 0, 1)), (1154, (.ireturn, 1)), (1155, (.aload_n 1, 1)), (1156, (.invokevirtual 180, 3)), (1159, (.aload_n 2, 1)), (1160, (.invokevirtual 183, 3)), (1163, (.if_icmp .eq 1228, 3)), (1166, (.iconst 0, 1)), (1167, (.ireturn, 1)), (1168, (.aload_n 1, 1)), (1169, (.aload_n 0, 1)), (1170, (.iload 4, 2)), (1172, (.iconst 1, 1))] : List (Nat × (Instr × Nat))), decode cL_law_ q.1 = .ok q.2 := by decide +kernel
theorem dL_law__1104 : decode cL_law_ 1104 = .ok (.if_icmp .eq 5, 3) := decG_15 (1104, (.if_icmp .eq 5, 3)) (List.mem_of_getElem? (i := 0) rfl)
theorem dL_law__1107 : decode cL_law_ 1107 = .ok (.iconst 0, 1) := decG_15 (1107, (.iconst 0, 1)) (List.mem_of_getElem? (i := 1) rfl)
theorem dL_law__1108 : decode cL_law_ 1108 = .ok (.ireturn, 1) := decG_15 (1108, (.ireturn, 1)) (List.mem_of_getElem? (i := 2) rfl)
theorem dL_law__1109 : decode cL_law_ 1109 = .ok (.iload 5, 2) := decG_15 (1109, (.iload 5, 2)) (List.mem_of_getElem? (i := 3) rfl)
theorem dL_law__1111 : decode cL_law_ 1111 = .ok (.ifCond .ne 15, 3) := decG_15 (1111, (.ifCond .ne 15, 3)) (List.mem_of_getElem? (i := 4) rfl)
theorem dL_law__1114 : decode cL_law_ 1114 = .ok (.aload_n 3, 1) := decG_15 (1114, (.aload_n 3, 1)) (List.mem_of_getElem? (i := 5) rfl)
theorem dL_law__1115 : decode cL_law_ 1115 = .ok (.iconst 0, 1) := decG_15 (1115, (.iconst 0, 1)) (List.mem_of_getElem? (i := 6) rfl)
theorem dL_law__1116 : decode cL_law_ 1116 = .ok (.laload, 1) := decG_15 (1116, (.laload, 1)) (List.mem_of_getElem? (i := 7) rfl)
theorem dL_law__1117 : decode cL_law_ 1117 = .ok (.iload 6, 2) := decG_15 (1117, (.iload 6, 2)) (List.mem_of_getElem? (i := 8) rfl)
theorem dL_law__1119 : decode cL_law_ 1119 = .ok (.i2l, 1) := decG_15 (1119, (.i2l, 1)) (List.mem_of_getElem? (i := 9) rfl)
theorem dL_law__1120 : decode cL_law_ 1120 = .ok (.lcmp, 1) := decG_15 (1120, (.lcmp, 1)) (List.mem_of_getElem? (i := 10) rfl)
theorem dL_law__1121 : decode cL_law_ 1121 = .ok (.ifCond .eq 5, 3) := decG_15 (1121, (.ifCond .eq 5, 3)) (List.mem_of_getElem? (i := 11) rfl)
theorem dL_law__1124 : decode cL_law_ 1124 = .ok (.iconst 0, 1) := decG_15 (1124, (.iconst 0, 1)) (List.mem_of_getElem? (i := 12) rfl)
theorem dL_law__1125 : decode cL_law_ 1125 = .ok (.ireturn, 1) := decG_15 (1125, (.ireturn, 1)) (List.mem_of_getElem? (i := 13) rfl)
theorem dL_law__1126 : decode cL_law_ 1126 = .ok (.goto 1265, 3) := decG_15 (1126, (.goto 1265, 3)) (List.mem_of_getElem? (i := 14) rfl)
theorem dL_law__1129 : decode cL_law_ 1129 = .ok (.aload_n 1, 1) := decG_15 (1129, (.aload_n 1, 1)) (List.mem_of_getElem? (i := 15) rfl)
theorem dL_law__1130 : decode cL_law_ 1130 = .ok (.invokevirtual 172, 3) := decG_15 (1130, (.invokevirtual 172, 3)) (List.mem_of_getElem? (i := 16) rfl)
theorem dL_law__1133 : decode cL_law_ 1133 = .ok (.aload_n 2, 1) := decG_15 (1133, (.aload_n 2, 1)) (List.mem_of_getElem? (i := 17) rfl)
theorem dL_law__1134 : decode cL_law_ 1134 = .ok (.invokevirtual 175, 3) := decG_15 (1134, (.invokevirtual 175, 3)) (List.mem_of_getElem? (i := 18) rfl)
theorem dL_law__1137 : decode cL_law_ 1137 = .ok (.if_icmp .eq 1254, 3) := decG_15 (1137, (.if_icmp .eq 1254, 3)) (List.mem_of_getElem? (i := 19) rfl)
theorem dL_law__1140 : decode cL_law_ 1140 = .ok (.iconst 0, 1) := decG_15 (1140, (.iconst 0, 1)) (List.mem_of_getElem? (i := 20) rfl)
theorem dL_law__1141 : decode cL_law_ 1141 = .ok (.ireturn, 1) := decG_15 (1141, (.ireturn, 1)) (List.mem_of_getElem? (i := 21) rfl)
theorem dL_law__1142 : decode cL_law_ 1142 = .ok (.aload_n 1, 1) := decG_15 (1142, (.aload_n 1, 1)) (List.mem_of_getElem? (i := 22) rfl)
theorem dL_law__1143 : decode cL_law_ 1143 = .ok (.invokevirtual 176, 3) := decG_15 (1143, (.invokevirtual 176, 3)) (List.mem_of_getElem? (i := 23) rfl)
theorem dL_law__1146 : decode cL_law_ 1146 = .ok (.aload_n 2, 1) := decG_15 (1146, (.aload_n 2, 1)) (List.mem_of_getElem? (i := 24) rfl)
theorem dL_law__1147 : decode cL_law_ 1147 = .ok (.invokevirtual 179, 3) := decG_15 (1147, (.invokevirtual 179, 3)) (List.mem_of_getElem? (i := 25) rfl)
theorem dL_law__1150 : decode cL_law_ 1150 = .ok (.if_icmp .eq 1241, 3) := decG_15 (1150, (.if_icmp .eq 1241, 3)) (List.mem_of_getElem? (i := 26) rfl)
theorem dL_law__1153 : decode cL_law_ 1153 = .ok (.iconst 0, 1) := decG_15 (1153, (.iconst 0, 1)) (List.mem_of_getElem? (i := 27) rfl)
theorem dL_law__1154 : decode cL_law_ 1154 = .ok (.ireturn, 1) := decG_15 (1154, (.ireturn, 1)) (List.mem_of_getElem? (i := 28) rfl)
theorem dL_law__1155 : decode cL_law_ 1155 = .ok (.aload_n 1, 1) := decG_15 (1155, (.aload_n 1, 1)) (List.mem_of_getElem? (i := 29) rfl)
theorem dL_law__1156 : decode cL_law_ 1156 = .ok (.invokevirtual 180, 3) := decG_15 (1156, (.invokevirtual 180, 3)) (List.mem_of_getElem? (i := 30) rfl)
theorem dL_law__1159 : decode cL_law_ 1159 = .ok (.aload_n 2, 1) := decG_15 (1159, (.aload_n 2, 1)) (List.mem_of_getElem? (i := 31) rfl)
theorem dL_law__1160 : decode cL_law_ 1160 = .ok (.invokevirtual 183, 3) := decG_15 (1160, (.invokevirtual 183, 3)) (List.mem_of_getElem? (i := 32) rfl)
theorem dL_law__1163 : decode cL_law_ 1163 = .ok (.if_icmp .eq 1228, 3) := decG_15 (1163, (.if_icmp .eq 1228, 3)) (List.mem_of_getElem? (i := 33) rfl)
theorem dL_law__1166 : decode cL_law_ 1166 = .ok (.iconst 0, 1) := decG_15 (1166, (.iconst 0, 1)) (List.mem_of_getElem? (i := 34) rfl)
theorem dL_law__1167 : decode cL_law_ 1167 = .ok (.ireturn, 1) := decG_15 (1167, (.ireturn, 1)) (List.mem_of_getElem? (i := 35) rfl)
theorem dL_law__1168 : decode cL_law_ 1168 = .ok (.aload_n 1, 1) := decG_15 (1168, (.aload_n 1, 1)) (List.mem_of_getElem? (i := 36) rfl)
theorem dL_law__1169 : decode cL_law_ 1169 = .ok (.aload_n 0, 1) := decG_15 (1169, (.aload_n 0, 1)) (List.mem_of_getElem? (i := 37) rfl)
theorem dL_law__1170 : decode cL_law_ 1170 = .ok (.iload 4, 2) := decG_15 (1170, (.iload 4, 2)) (List.mem_of_getElem? (i := 38) rfl)
theorem dL_law__1172 : decode cL_law_ 1172 = .ok (.iconst 1, 1) := decG_15 (1172, (.iconst 1, 1)) (List.mem_of_getElem? (i := 39) rfl)
set_option maxRecDepth 100000 in
theorem decG_16 : ∀ q ∈ ([(1173, (.iadd, 1)), (1174, (.iaload, 1)), (1175, (.aload_n 3, 1)), (1176, (.invokestatic 184, 3)), (1179, (.istore 5, 2)), (1181, (.aload_n 2, 1)), (1182, (.aload_n 0, 1)), (1183, (.iload 4, 2)), (1185, (.iconst 1, 1)), (1186, (.iadd, 1)), (1187, (.iaload, 1)), (1188, (.invokevirtual 186, 3)), (1191, (.istore 6, 2)), (1193, (.aload_n 2, 1)), (1194, (.invokevirtual 127, 3)), (1197, (.iload 5, 2)), (1199, (.if_icmp .eq 5, 3)), (1202, (.iconst 0, 1)), (1203, (.ireturn, 1)), (1204, (.iload 5, 2)), (1206, (.ifCond .ne 15, 3)), (1209, (.aload_n 3, 1)), (1210, (.iconst 0, 1)), (1211, (.laload, 1)), (1212, (.iload 6, 2)), (1214, (.i2l, 1)), (1215, (.lcmp, 1)), (1216, (.ifCond .eq 5, 3)), (1219, (.iconst 0, 1)), (1220, (.ireturn, 1)), (1221, (.goto 1170, 3)), (1224, (.aload_n 1, 1)), (1225, (.invokevirtual 187, 3)), (1228, (.aload_n 2, 1)), (1229, (.invokevirtual 190, 3)), (1232, (.if_icmp .eq 1159, 3)), (1235, (.iconst 0, 1)), (1236, (.ireturn, 1)), (1237, (.aload_n 1, 1)), (1238, (.aload_n 0, 1))] : List (Nat × (Instr × Nat))), decode cL_law_ q.1 = .ok q.2 := by decide +kernel
theorem dL_law__1173 : decode cL_law_ 1173 = .ok (.iadd, 1) := decG_16 (1173, (.iadd, 1)) (List.mem_of_getElem? (i := 0) rfl)
theorem dL_law__1174 : decode cL_law_ 1174 = .ok (.iaload, 1) := decG_16 (1174, (.iaload, 1)) (List.mem_of_getElem? (i := 1) rfl)
theorem dL_law__1175 : decode cL_law_ 1175 = .ok (.aload_n 3, 1) := decG_16 (1175, (.aload_n 3, 1)) (List.mem_of_getElem? (i := 2) rfl)
theorem dL_law__1176 : decode cL_law_ 1176 = .ok (.invokestatic 184, 3) := decG_16 (1176, (.invokestatic 184, 3)) (List.mem_of_getElem? (i := 3) rfl)
theorem dL_law__1179 : decode cL_law_ 1179 = .ok (.istore 5, 2) := decG_16 (1179, (.istore 5, 2)) (List.mem_of_getElem? (i := 4) rfl)
theorem dL_law__1181 : decode cL_law_ 1181 = .ok (.aload_n 2, 1) := decG_16 (1181, (.aload_n 2, 1)) (List.mem_of_getElem? (i := 5) rfl)
theorem dL_law__1182 : decode cL_law_ 1182 = .ok (.aload_n 0, 1) := decG_16 (1182, (.aload_n 0, 1)) (List.mem_of_getElem? (i := 6) rfl)
theorem dL_law__1183 : decode cL_law_ 1183 = .ok (.iload 4, 2) := decG_16 (1183, (.iload 4, 2)) (List.mem_of_getElem? (i := 7) rfl)
theorem dL_law__1185 : decode cL_law_ 1185 = .ok (.iconst 1, 1) := decG_16 (1185, (.iconst 1, 1)) (List.mem_of_getElem? (i := 8) rfl)
theorem dL_law__1186 : decode cL_law_ 1186 = .ok (.iadd, 1) := decG_16 (1186, (.iadd, 1)) (List.mem_of_getElem? (i := 9) rfl)
theorem dL_law__1187 : decode cL_law_ 1187 = .ok (.iaload, 1) := decG_16 (1187, (.iaload, 1)) (List.mem_of_getElem? (i := 10) rfl)
theorem dL_law__1188 : decode cL_law_ 1188 = .ok (.invokevirtual 186, 3) := decG_16 (1188, (.invokevirtual 186, 3)) (List.mem_of_getElem? (i := 11) rfl)
theorem dL_law__1191 : decode cL_law_ 1191 = .ok (.istore 6, 2) := decG_16 (1191, (.istore 6, 2)) (List.mem_of_getElem? (i := 12) rfl)
theorem dL_law__1193 : decode cL_law_ 1193 = .ok (.aload_n 2, 1) := decG_16 (1193, (.aload_n 2, 1)) (List.mem_of_getElem? (i := 13) rfl)
theorem dL_law__1194 : decode cL_law_ 1194 = .ok (.invokevirtual 127, 3) := decG_16 (1194, (.invokevirtual 127, 3)) (List.mem_of_getElem? (i := 14) rfl)
theorem dL_law__1197 : decode cL_law_ 1197 = .ok (.iload 5, 2) := decG_16 (1197, (.iload 5, 2)) (List.mem_of_getElem? (i := 15) rfl)
theorem dL_law__1199 : decode cL_law_ 1199 = .ok (.if_icmp .eq 5, 3) := decG_16 (1199, (.if_icmp .eq 5, 3)) (List.mem_of_getElem? (i := 16) rfl)
theorem dL_law__1202 : decode cL_law_ 1202 = .ok (.iconst 0, 1) := decG_16 (1202, (.iconst 0, 1)) (List.mem_of_getElem? (i := 17) rfl)
theorem dL_law__1203 : decode cL_law_ 1203 = .ok (.ireturn, 1) := decG_16 (1203, (.ireturn, 1)) (List.mem_of_getElem? (i := 18) rfl)
theorem dL_law__1204 : decode cL_law_ 1204 = .ok (.iload 5, 2) := decG_16 (1204, (.iload 5, 2)) (List.mem_of_getElem? (i := 19) rfl)
theorem dL_law__1206 : decode cL_law_ 1206 = .ok (.ifCond .ne 15, 3) := decG_16 (1206, (.ifCond .ne 15, 3)) (List.mem_of_getElem? (i := 20) rfl)
theorem dL_law__1209 : decode cL_law_ 1209 = .ok (.aload_n 3, 1) := decG_16 (1209, (.aload_n 3, 1)) (List.mem_of_getElem? (i := 21) rfl)
theorem dL_law__1210 : decode cL_law_ 1210 = .ok (.iconst 0, 1) := decG_16 (1210, (.iconst 0, 1)) (List.mem_of_getElem? (i := 22) rfl)
theorem dL_law__1211 : decode cL_law_ 1211 = .ok (.laload, 1) := decG_16 (1211, (.laload, 1)) (List.mem_of_getElem? (i := 23) rfl)
theorem dL_law__1212 : decode cL_law_ 1212 = .ok (.iload 6, 2) := decG_16 (1212, (.iload 6, 2)) (List.mem_of_getElem? (i := 24) rfl)
theorem dL_law__1214 : decode cL_law_ 1214 = .ok (.i2l, 1) := decG_16 (1214, (.i2l, 1)) (List.mem_of_getElem? (i := 25) rfl)
theorem dL_law__1215 : decode cL_law_ 1215 = .ok (.lcmp, 1) := decG_16 (1215, (.lcmp, 1)) (List.mem_of_getElem? (i := 26) rfl)
theorem dL_law__1216 : decode cL_law_ 1216 = .ok (.ifCond .eq 5, 3) := decG_16 (1216, (.ifCond .eq 5, 3)) (List.mem_of_getElem? (i := 27) rfl)
theorem dL_law__1219 : decode cL_law_ 1219 = .ok (.iconst 0, 1) := decG_16 (1219, (.iconst 0, 1)) (List.mem_of_getElem? (i := 28) rfl)
theorem dL_law__1220 : decode cL_law_ 1220 = .ok (.ireturn, 1) := decG_16 (1220, (.ireturn, 1)) (List.mem_of_getElem? (i := 29) rfl)
theorem dL_law__1221 : decode cL_law_ 1221 = .ok (.goto 1170, 3) := decG_16 (1221, (.goto 1170, 3)) (List.mem_of_getElem? (i := 30) rfl)
theorem dL_law__1224 : decode cL_law_ 1224 = .ok (.aload_n 1, 1) := decG_16 (1224, (.aload_n 1, 1)) (List.mem_of_getElem? (i := 31) rfl)
theorem dL_law__1225 : decode cL_law_ 1225 = .ok (.invokevirtual 187, 3) := decG_16 (1225, (.invokevirtual 187, 3)) (List.mem_of_getElem? (i := 32) rfl)
theorem dL_law__1228 : decode cL_law_ 1228 = .ok (.aload_n 2, 1) := decG_16 (1228, (.aload_n 2, 1)) (List.mem_of_getElem? (i := 33) rfl)
theorem dL_law__1229 : decode cL_law_ 1229 = .ok (.invokevirtual 190, 3) := decG_16 (1229, (.invokevirtual 190, 3)) (List.mem_of_getElem? (i := 34) rfl)
theorem dL_law__1232 : decode cL_law_ 1232 = .ok (.if_icmp .eq 1159, 3) := decG_16 (1232, (.if_icmp .eq 1159, 3)) (List.mem_of_getElem? (i := 35) rfl)
theorem dL_law__1235 : decode cL_law_ 1235 = .ok (.iconst 0, 1) := decG_16 (1235, (.iconst 0, 1)) (List.mem_of_getElem? (i := 36) rfl)
theorem dL_law__1236 : decode cL_law_ 1236 = .ok (.ireturn, 1) := decG_16 (1236, (.ireturn, 1)) (List.mem_of_getElem? (i := 37) rfl)
theorem dL_law__1237 : decode cL_law_ 1237 = .ok (.aload_n 1, 1) := decG_16 (1237, (.aload_n 1, 1)) (List.mem_of_getElem? (i := 38) rfl)
theorem dL_law__1238 : decode cL_law_ 1238 = .ok (.aload_n 0, 1) := decG_16 (1238, (.aload_n 0, 1)) (List.mem_of_getElem? (i := 39) rfl)
set_option maxRecDepth 100000 in
theorem decG_17 : ∀ q ∈ ([(1239, (.iload 4, 2)), (1241, (.iconst 1, 1)), (1242, (.iadd, 1)), (1243, (.iaload, 1)), (1244, (.ifCond .eq 7, 3)), (1247, (.iconst 1, 1)), (1248, (.goto 4, 3)), (1251, (.iconst 0, 1)), (1252, (.invokevirtual 191, 3)), (1255, (.aload_n 2, 1)), (1256, (.aload_n 0, 1)), (1257, (.iload 4, 2)), (1259, (.iconst 1, 1)), (1260, (.iadd, 1)), (1261, (.iaload, 1)), (1262, (.ifCond .eq 7, 3)), (1265, (.iconst 1, 1)), (1266, (.goto 4, 3)), (1269, (.iconst 0, 1)), (1270, (.invokevirtual 194, 3)), (1273, (.if_icmp .eq 1118, 3)), (1276, (.iconst 0, 1)), (1277, (.ireturn, 1)), (1278, (.aload_n 1, 1)), (1279, (.aload_n 0, 1)), (1280, (.iload 4, 2)), (1282, (.iconst 1, 1)), (1283, (.iadd, 1)), (1284, (.iaload, 1)), (1285, (.aload_n 0, 1)), (1286, (.iload 4, 2)), (1288, (.iconst 2, 1)), (1289, (.iadd, 1)), (1290, (.iaload, 1)), (1291, (.ifCond .eq 7, 3)), (1294, (.iconst 1, 1)), (1295, (.goto 4, 3)), (1298, (.iconst 0, 1)), (1299, (.aload_n 3, 1)), (1300, (.invokestatic 195, 3))] : List (Nat × (Instr × Nat))), decode cL_law_ q.1 = .ok q.2 := by decide +kernel
theorem dL_law__1239 : decode cL_law_ 1239 = .ok (.iload 4, 2) := decG_17 (1239, (.iload 4, 2)) (List.mem_of_getElem? (i := 0) rfl)
theorem dL_law__1241 : decode cL_law_ 1241 = .ok (.iconst 1, 1) := decG_17 (1241, (.iconst 1, 1)) (List.mem_of_getElem? (i := 1) rfl)
theorem dL_law__1242 : decode cL_law_ 1242 = .ok (.iadd, 1) := decG_17 (1242, (.iadd, 1)) (List.mem_of_getElem? (i := 2) rfl)
theorem dL_law__1243 : decode cL_law_ 1243 = .ok (.iaload, 1) := decG_17 (1243, (.iaload, 1)) (List.mem_of_getElem? (i := 3) rfl)
theorem dL_law__1244 : decode cL_law_ 1244 = .ok (.ifCond .eq 7, 3) := decG_17 (1244, (.ifCond .eq 7, 3)) (List.mem_of_getElem? (i := 4) rfl)
theorem dL_law__1247 : decode cL_law_ 1247 = .ok (.iconst 1, 1) := decG_17 (1247, (.iconst 1, 1)) (List.mem_of_getElem? (i := 5) rfl)
theorem dL_law__1248 : decode cL_law_ 1248 = .ok (.goto 4, 3) := decG_17 (1248, (.goto 4, 3)) (List.mem_of_getElem? (i := 6) rfl)
theorem dL_law__1251 : decode cL_law_ 1251 = .ok (.iconst 0, 1) := decG_17 (1251, (.iconst 0, 1)) (List.mem_of_getElem? (i := 7) rfl)
theorem dL_law__1252 : decode cL_law_ 1252 = .ok (.invokevirtual 191, 3) := decG_17 (1252, (.invokevirtual 191, 3)) (List.mem_of_getElem? (i := 8) rfl)
theorem dL_law__1255 : decode cL_law_ 1255 = .ok (.aload_n 2, 1) := decG_17 (1255, (.aload_n 2, 1)) (List.mem_of_getElem? (i := 9) rfl)
theorem dL_law__1256 : decode cL_law_ 1256 = .ok (.aload_n 0, 1) := decG_17 (1256, (.aload_n 0, 1)) (List.mem_of_getElem? (i := 10) rfl)
theorem dL_law__1257 : decode cL_law_ 1257 = .ok (.iload 4, 2) := decG_17 (1257, (.iload 4, 2)) (List.mem_of_getElem? (i := 11) rfl)
theorem dL_law__1259 : decode cL_law_ 1259 = .ok (.iconst 1, 1) := decG_17 (1259, (.iconst 1, 1)) (List.mem_of_getElem? (i := 12) rfl)
theorem dL_law__1260 : decode cL_law_ 1260 = .ok (.iadd, 1) := decG_17 (1260, (.iadd, 1)) (List.mem_of_getElem? (i := 13) rfl)
theorem dL_law__1261 : decode cL_law_ 1261 = .ok (.iaload, 1) := decG_17 (1261, (.iaload, 1)) (List.mem_of_getElem? (i := 14) rfl)
theorem dL_law__1262 : decode cL_law_ 1262 = .ok (.ifCond .eq 7, 3) := decG_17 (1262, (.ifCond .eq 7, 3)) (List.mem_of_getElem? (i := 15) rfl)
theorem dL_law__1265 : decode cL_law_ 1265 = .ok (.iconst 1, 1) := decG_17 (1265, (.iconst 1, 1)) (List.mem_of_getElem? (i := 16) rfl)
theorem dL_law__1266 : decode cL_law_ 1266 = .ok (.goto 4, 3) := decG_17 (1266, (.goto 4, 3)) (List.mem_of_getElem? (i := 17) rfl)
theorem dL_law__1269 : decode cL_law_ 1269 = .ok (.iconst 0, 1) := decG_17 (1269, (.iconst 0, 1)) (List.mem_of_getElem? (i := 18) rfl)
theorem dL_law__1270 : decode cL_law_ 1270 = .ok (.invokevirtual 194, 3) := decG_17 (1270, (.invokevirtual 194, 3)) (List.mem_of_getElem? (i := 19) rfl)
theorem dL_law__1273 : decode cL_law_ 1273 = .ok (.if_icmp .eq 1118, 3) := decG_17 (1273, (.if_icmp .eq 1118, 3)) (List.mem_of_getElem? (i := 20) rfl)
theorem dL_law__1276 : decode cL_law_ 1276 = .ok (.iconst 0, 1) := decG_17 (1276, (.iconst 0, 1)) (List.mem_of_getElem? (i := 21) rfl)
theorem dL_law__1277 : decode cL_law_ 1277 = .ok (.ireturn, 1) := decG_17 (1277, (.ireturn, 1)) (List.mem_of_getElem? (i := 22) rfl)
theorem dL_law__1278 : decode cL_law_ 1278 = .ok (.aload_n 1, 1) := decG_17 (1278, (.aload_n 1, 1)) (List.mem_of_getElem? (i := 23) rfl)
theorem dL_law__1279 : decode cL_law_ 1279 = .ok (.aload_n 0, 1) := decG_17 (1279, (.aload_n 0, 1)) (List.mem_of_getElem? (i := 24) rfl)
theorem dL_law__1280 : decode cL_law_ 1280 = .ok (.iload 4, 2) := decG_17 (1280, (.iload 4, 2)) (List.mem_of_getElem? (i := 25) rfl)
theorem dL_law__1282 : decode cL_law_ 1282 = .ok (.iconst 1, 1) := decG_17 (1282, (.iconst 1, 1)) (List.mem_of_getElem? (i := 26) rfl)
theorem dL_law__1283 : decode cL_law_ 1283 = .ok (.iadd, 1) := decG_17 (1283, (.iadd, 1)) (List.mem_of_getElem? (i := 27) rfl)
theorem dL_law__1284 : decode cL_law_ 1284 = .ok (.iaload, 1) := decG_17 (1284, (.iaload, 1)) (List.mem_of_getElem? (i := 28) rfl)
theorem dL_law__1285 : decode cL_law_ 1285 = .ok (.aload_n 0, 1) := decG_17 (1285, (.aload_n 0, 1)) (List.mem_of_getElem? (i := 29) rfl)
theorem dL_law__1286 : decode cL_law_ 1286 = .ok (.iload 4, 2) := decG_17 (1286, (.iload 4, 2)) (List.mem_of_getElem? (i := 30) rfl)
theorem dL_law__1288 : decode cL_law_ 1288 = .ok (.iconst 2, 1) := decG_17 (1288, (.iconst 2, 1)) (List.mem_of_getElem? (i := 31) rfl)
theorem dL_law__1289 : decode cL_law_ 1289 = .ok (.iadd, 1) := decG_17 (1289, (.iadd, 1)) (List.mem_of_getElem? (i := 32) rfl)
theorem dL_law__1290 : decode cL_law_ 1290 = .ok (.iaload, 1) := decG_17 (1290, (.iaload, 1)) (List.mem_of_getElem? (i := 33) rfl)
theorem dL_law__1291 : decode cL_law_ 1291 = .ok (.ifCond .eq 7, 3) := decG_17 (1291, (.ifCond .eq 7, 3)) (List.mem_of_getElem? (i := 34) rfl)
theorem dL_law__1294 : decode cL_law_ 1294 = .ok (.iconst 1, 1) := decG_17 (1294, (.iconst 1, 1)) (List.mem_of_getElem? (i := 35) rfl)
theorem dL_law__1295 : decode cL_law_ 1295 = .ok (.goto 4, 3) := decG_17 (1295, (.goto 4, 3)) (List.mem_of_getElem? (i := 36) rfl)
theorem dL_law__1298 : decode cL_law_ 1298 = .ok (.iconst 0, 1) := decG_17 (1298, (.iconst 0, 1)) (List.mem_of_getElem? (i := 37) rfl)
theorem dL_law__1299 : decode cL_law_ 1299 = .ok (.aload_n 3, 1) := decG_17 (1299, (.aload_n 3, 1)) (List.mem_of_getElem? (i := 38) rfl)
theorem dL_law__1300 : decode cL_law_ 1300 = .ok (.invokestatic 195, 3) := decG_17 (1300, (.invokestatic 195, 3)) (List.mem_of_getElem? (i := 39) rfl)
set_option maxRecDepth 100000 in
theorem decG_18 : ∀ q ∈ ([(1303, (.istore 5, 2)), (1305, (.aload_n 2, 1)), (1306, (.aload_n 0, 1)), (1307, (.iload 4, 2)), (1309, (.iconst 1, 1)), (1310, (.iadd, 1)), (1311, (.iaload, 1)), (1312, (.aload_n 0, 1)), (1313, (.iload 4, 2)), (1315, (.iconst 2, 1)), (1316, (.iadd, 1)), (1317, (.iaload, 1)), (1318, (.ifCond .eq 7, 3)), (1321, (.iconst 1, 1)), (1322, (.goto 4, 3)), (1325, (.iconst 0, 1)), (1326, (.invokevirtual 197, 3)), (1329, (.istore 6, 2)), (1331, (.aload_n 2, 1)), (1332, (.invokevirtual 127, 3)), (1335, (.iload 5, 2)), (1337, (.if_icmp .eq 5, 3)), (1340, (.iconst 0, 1)), (1341, (.ireturn, 1)), (1342, (.iload 5, 2)), (1344, (.ifCond .ne 15, 3)), (1347, (.aload_n 3, 1)), (1348, (.iconst 0, 1)), (1349, (.laload, 1)), (1350, (.iload 6, 2)), (1352, (.i2l, 1)), (1353, (.lcmp, 1)), (1354, (.ifCond .eq 5, 3)), (1357, (.iconst 0, 1)), (1358, (.ireturn, 1)), (1359, (.goto 1032, 3)), (1362, (.aload_n 1, 1)), (1363, (.invokevirtual 198, 3)), (1366, (.aload_n 2, 1)), (1367, (.invokevirtual 201, 3))] : List (Nat × (Instr × Nat))), decode cL_law_ q.1 = .ok q.2 := by decide +kernel
theorem dL_law__1303 : decode cL_law_ 1303 = .ok (.istore 5, 2) := decG_18 (1303, (.istore 5, 2)) (List.mem_of_getElem? (i := 0) rfl)
theorem dL_law__1305 : decode cL_law_ 1305 = .ok (.aload_n 2, 1) := decG_18 (1305, (.aload_n 2, 1)) (List.mem_of_getElem? (i := 1) rfl)
theorem dL_law__1306 : decode cL_law_ 1306 = .ok (.aload_n 0, 1) := decG_18 (1306, (.aload_n 0, 1)) (List.mem_of_getElem? (i := 2) rfl)
theorem dL_law__1307 : decode cL_law_ 1307 = .ok (.iload 4, 2) := decG_18 (1307, (.iload 4, 2)) (List.mem_of_getElem? (i := 3) rfl)
theorem dL_law__1309 : decode cL_law_ 1309 = .ok (.iconst 1, 1) := decG_18 (1309, (.iconst 1, 1)) (List.mem_of_getElem? (i := 4) rfl)
theorem dL_law__1310 : decode cL_law_ 1310 = .ok (.iadd, 1) := decG_18 (1310, (.iadd, 1)) (List.mem_of_getElem? (i := 5) rfl)
theorem dL_law__1311 : decode cL_law_ 1311 = .ok (.iaload, 1) := decG_18 (1311, (.iaload, 1)) (List.mem_of_getElem? (i := 6) rfl)
theorem dL_law__1312 : decode cL_law_ 1312 = .ok (.aload_n 0, 1) := decG_18 (1312, (.aload_n 0, 1)) (List.mem_of_getElem? (i := 7) rfl)
theorem dL_law__1313 : decode cL_law_ 1313 = .ok (.iload 4, 2) := decG_18 (1313, (.iload 4, 2)) (List.mem_of_getElem? (i := 8) rfl)
theorem dL_law__1315 : decode cL_law_ 1315 = .ok (.iconst 2, 1) := decG_18 (1315, (.iconst 2, 1)) (List.mem_of_getElem? (i := 9) rfl)
theorem dL_law__1316 : decode cL_law_ 1316 = .ok (.iadd, 1) := decG_18 (1316, (.iadd, 1)) (List.mem_of_getElem? (i := 10) rfl)
theorem dL_law__1317 : decode cL_law_ 1317 = .ok (.iaload, 1) := decG_18 (1317, (.iaload, 1)) (List.mem_of_getElem? (i := 11) rfl)
theorem dL_law__1318 : decode cL_law_ 1318 = .ok (.ifCond .eq 7, 3) := decG_18 (1318, (.ifCond .eq 7, 3)) (List.mem_of_getElem? (i := 12) rfl)
theorem dL_law__1321 : decode cL_law_ 1321 = .ok (.iconst 1, 1) := decG_18 (1321, (.iconst 1, 1)) (List.mem_of_getElem? (i := 13) rfl)
theorem dL_law__1322 : decode cL_law_ 1322 = .ok (.goto 4, 3) := decG_18 (1322, (.goto 4, 3)) (List.mem_of_getElem? (i := 14) rfl)
theorem dL_law__1325 : decode cL_law_ 1325 = .ok (.iconst 0, 1) := decG_18 (1325, (.iconst 0, 1)) (List.mem_of_getElem? (i := 15) rfl)
theorem dL_law__1326 : decode cL_law_ 1326 = .ok (.invokevirtual 197, 3) := decG_18 (1326, (.invokevirtual 197, 3)) (List.mem_of_getElem? (i := 16) rfl)
theorem dL_law__1329 : decode cL_law_ 1329 = .ok (.istore 6, 2) := decG_18 (1329, (.istore 6, 2)) (List.mem_of_getElem? (i := 17) rfl)
theorem dL_law__1331 : decode cL_law_ 1331 = .ok (.aload_n 2, 1) := decG_18 (1331, (.aload_n 2, 1)) (List.mem_of_getElem? (i := 18) rfl)
theorem dL_law__1332 : decode cL_law_ 1332 = .ok (.invokevirtual 127, 3) := decG_18 (1332, (.invokevirtual 127, 3)) (List.mem_of_getElem? (i := 19) rfl)
theorem dL_law__1335 : decode cL_law_ 1335 = .ok (.iload 5, 2) := decG_18 (1335, (.iload 5, 2)) (List.mem_of_getElem? (i := 20) rfl)
theorem dL_law__1337 : decode cL_law_ 1337 = .ok (.if_icmp .eq 5, 3) := decG_18 (1337, (.if_icmp .eq 5, 3)) (List.mem_of_getElem? (i := 21) rfl)
theorem dL_law__1340 : decode cL_law_ 1340 = .ok (.iconst 0, 1) := decG_18 (1340, (.iconst 0, 1)) (List.mem_of_getElem? (i := 22) rfl)
theorem dL_law__1341 : decode cL_law_ 1341 = .ok (.ireturn, 1) := decG_18 (1341, (.ireturn, 1)) (List.mem_of_getElem? (i := 23) rfl)
theorem dL_law__1342 : decode cL_law_ 1342 = .ok (.iload 5, 2) := decG_18 (1342, (.iload 5, 2)) (List.mem_of_getElem? (i := 24) rfl)
theorem dL_law__1344 : decode cL_law_ 1344 = .ok (.ifCond .ne 15, 3) := decG_18 (1344, (.ifCond .ne 15, 3)) (List.mem_of_getElem? (i := 25) rfl)
theorem dL_law__1347 : decode cL_law_ 1347 = .ok (.aload_n 3, 1) := decG_18 (1347, (.aload_n 3, 1)) (List.mem_of_getElem? (i := 26) rfl)
theorem dL_law__1348 : decode cL_law_ 1348 = .ok (.iconst 0, 1) := decG_18 (1348, (.iconst 0, 1)) (List.mem_of_getElem? (i := 27) rfl)
theorem dL_law__1349 : decode cL_law_ 1349 = .ok (.laload, 1) := decG_18 (1349, (.laload, 1)) (List.mem_of_getElem? (i := 28) rfl)
theorem dL_law__1350 : decode cL_law_ 1350 = .ok (.iload 6, 2) := decG_18 (1350, (.iload 6, 2)) (List.mem_of_getElem? (i := 29) rfl)
theorem dL_law__1352 : decode cL_law_ 1352 = .ok (.i2l, 1) := decG_18 (1352, (.i2l, 1)) (List.mem_of_getElem? (i := 30) rfl)
theorem dL_law__1353 : decode cL_law_ 1353 = .ok (.lcmp, 1) := decG_18 (1353, (.lcmp, 1)) (List.mem_of_getElem? (i := 31) rfl)
theorem dL_law__1354 : decode cL_law_ 1354 = .ok (.ifCond .eq 5, 3) := decG_18 (1354, (.ifCond .eq 5, 3)) (List.mem_of_getElem? (i := 32) rfl)
theorem dL_law__1357 : decode cL_law_ 1357 = .ok (.iconst 0, 1) := decG_18 (1357, (.iconst 0, 1)) (List.mem_of_getElem? (i := 33) rfl)
theorem dL_law__1358 : decode cL_law_ 1358 = .ok (.ireturn, 1) := decG_18 (1358, (.ireturn, 1)) (List.mem_of_getElem? (i := 34) rfl)
theorem dL_law__1359 : decode cL_law_ 1359 = .ok (.goto 1032, 3) := decG_18 (1359, (.goto 1032, 3)) (List.mem_of_getElem? (i := 35) rfl)
theorem dL_law__1362 : decode cL_law_ 1362 = .ok (.aload_n 1, 1) := decG_18 (1362, (.aload_n 1, 1)) (List.mem_of_getElem? (i := 36) rfl)
theorem dL_law__1363 : decode cL_law_ 1363 = .ok (.invokevirtual 198, 3) := decG_18 (1363, (.invokevirtual 198, 3)) (List.mem_of_getElem? (i := 37) rfl)
theorem dL_law__1366 : decode cL_law_ 1366 = .ok (.aload_n 2, 1) := decG_18 (1366, (.aload_n 2, 1)) (List.mem_of_getElem? (i := 38) rfl)
theorem dL_law__1367 : decode cL_law_ 1367 = .ok (.invokevirtual 201, 3) := decG_18 (1367, (.invokevirtual 201, 3)) (List.mem_of_getElem? (i := 39) rfl)
set_option maxRecDepth 100000 in
theorem decG_19 : ∀ q ∈ ([(1370, (.if_icmp .eq 1021, 3)), (1373, (.iconst 0, 1)), (1374, (.ireturn, 1)), (1375, (.aload_n 1, 1)), (1376, (.invokevirtual 202, 3)), (1379, (.aload_n 2, 1)), (1380, (.invokevirtual 205, 3)), (1383, (.if_icmp .eq 1008, 3)), (1386, (.iconst 0, 1)), (1387, (.ireturn, 1)), (1388, (.aload_n 1, 1)), (1389, (.aload_n 0, 1)), (1390, (.iload 4, 2)), (1392, (.iconst 1, 1)), (1393, (.iadd, 1)), (1394, (.iaload, 1)), (1395, (.aload_n 0, 1)), (1396, (.iload 4, 2)), (1398, (.iconst 2, 1)), (1399, (.iadd, 1)), (1400, (.iaload, 1)), (1401, (.aload_n 3, 1)), (1402, (.invokestatic 206, 3)), (1405, (.istore 5, 2)), (1407, (.aload_n 2, 1)), (1408, (.aload_n 0, 1)), (1409, (.iload 4, 2)), (1411, (.iconst 1, 1)), (1412, (.iadd, 1)), (1413, (.iaload, 1)), (1414, (.aload_n 0, 1)), (1415, (.iload 4, 2)), (1417, (.iconst 2, 1)), (1418, (.iadd, 1)), (1419, (.iaload, 1)), (1420, (.invokevirtual 208, 3)), (1423, (.istore 6, 2)), (1425, (.aload_n 2, 1)), (1426, (.invokevirtual 127, 3)), (1429, (.iload 5, 2))] : List (Nat × (Instr × Nat))), decode cL_law_ q.1 = .ok q.2 := by decide +kernel
theorem dL_law__1370 : decode cL_law_ 1370 = .ok (.if_icmp .eq 1021, 3) := decG_19 (1370, (.if_icmp .eq 1021, 3)) (List.mem_of_getElem? (i := 0) rfl)
theorem dL_law__1373 : decode cL_law_ 1373 = .ok (.iconst 0, 1) := decG_19 (1373, (.iconst 0, 1)) (List.mem_of_getElem? (i := 1) rfl)
theorem dL_law__1374 : decode cL_law_ 1374 = .ok (.ireturn, 1) := decG_19 (1374, (.ireturn, 1)) (List.mem_of_getElem? (i := 2) rfl)
theorem dL_law__1375 : decode cL_law_ 1375 = .ok (.aload_n 1, 1) := decG_19 (1375, (.aload_n 1, 1)) (List.mem_of_getElem? (i := 3) rfl)
theorem dL_law__1376 : decode cL_law_ 1376 = .ok (.invokevirtual 202, 3) := decG_19 (1376, (.invokevirtual 202, 3)) (List.mem_of_getElem? (i := 4) rfl)
theorem dL_law__1379 : decode cL_law_ 1379 = .ok (.aload_n 2, 1) := decG_19 (1379, (.aload_n 2, 1)) (List.mem_of_getElem? (i := 5) rfl)
theorem dL_law__1380 : decode cL_law_ 1380 = .ok (.invokevirtual 205, 3) := decG_19 (1380, (.invokevirtual 205, 3)) (List.mem_of_getElem? (i := 6) rfl)
theorem dL_law__1383 : decode cL_law_ 1383 = .ok (.if_icmp .eq 1008, 3) := decG_19 (1383, (.if_icmp .eq 1008, 3)) (List.mem_of_getElem? (i := 7) rfl)
theorem dL_law__1386 : decode cL_law_ 1386 = .ok (.iconst 0, 1) := decG_19 (1386, (.iconst 0, 1)) (List.mem_of_getElem? (i := 8) rfl)
theorem dL_law__1387 : decode cL_law_ 1387 = .ok (.ireturn, 1) := decG_19 (1387, (.ireturn, 1)) (List.mem_of_getElem? (i := 9) rfl)
theorem dL_law__1388 : decode cL_law_ 1388 = .ok (.aload_n 1, 1) := decG_19 (1388, (.aload_n 1, 1)) (List.mem_of_getElem? (i := 10) rfl)
theorem dL_law__1389 : decode cL_law_ 1389 = .ok (.aload_n 0, 1) := decG_19 (1389, (.aload_n 0, 1)) (List.mem_of_getElem? (i := 11) rfl)
theorem dL_law__1390 : decode cL_law_ 1390 = .ok (.iload 4, 2) := decG_19 (1390, (.iload 4, 2)) (List.mem_of_getElem? (i := 12) rfl)
theorem dL_law__1392 : decode cL_law_ 1392 = .ok (.iconst 1, 1) := decG_19 (1392, (.iconst 1, 1)) (List.mem_of_getElem? (i := 13) rfl)
theorem dL_law__1393 : decode cL_law_ 1393 = .ok (.iadd, 1) := decG_19 (1393, (.iadd, 1)) (List.mem_of_getElem? (i := 14) rfl)
theorem dL_law__1394 : decode cL_law_ 1394 = .ok (.iaload, 1) := decG_19 (1394, (.iaload, 1)) (List.mem_of_getElem? (i := 15) rfl)
theorem dL_law__1395 : decode cL_law_ 1395 = .ok (.aload_n 0, 1) := decG_19 (1395, (.aload_n 0, 1)) (List.mem_of_getElem? (i := 16) rfl)
theorem dL_law__1396 : decode cL_law_ 1396 = .ok (.iload 4, 2) := decG_19 (1396, (.iload 4, 2)) (List.mem_of_getElem? (i := 17) rfl)
theorem dL_law__1398 : decode cL_law_ 1398 = .ok (.iconst 2, 1) := decG_19 (1398, (.iconst 2, 1)) (List.mem_of_getElem? (i := 18) rfl)
theorem dL_law__1399 : decode cL_law_ 1399 = .ok (.iadd, 1) := decG_19 (1399, (.iadd, 1)) (List.mem_of_getElem? (i := 19) rfl)
theorem dL_law__1400 : decode cL_law_ 1400 = .ok (.iaload, 1) := decG_19 (1400, (.iaload, 1)) (List.mem_of_getElem? (i := 20) rfl)
theorem dL_law__1401 : decode cL_law_ 1401 = .ok (.aload_n 3, 1) := decG_19 (1401, (.aload_n 3, 1)) (List.mem_of_getElem? (i := 21) rfl)
theorem dL_law__1402 : decode cL_law_ 1402 = .ok (.invokestatic 206, 3) := decG_19 (1402, (.invokestatic 206, 3)) (List.mem_of_getElem? (i := 22) rfl)
theorem dL_law__1405 : decode cL_law_ 1405 = .ok (.istore 5, 2) := decG_19 (1405, (.istore 5, 2)) (List.mem_of_getElem? (i := 23) rfl)
theorem dL_law__1407 : decode cL_law_ 1407 = .ok (.aload_n 2, 1) := decG_19 (1407, (.aload_n 2, 1)) (List.mem_of_getElem? (i := 24) rfl)
theorem dL_law__1408 : decode cL_law_ 1408 = .ok (.aload_n 0, 1) := decG_19 (1408, (.aload_n 0, 1)) (List.mem_of_getElem? (i := 25) rfl)
theorem dL_law__1409 : decode cL_law_ 1409 = .ok (.iload 4, 2) := decG_19 (1409, (.iload 4, 2)) (List.mem_of_getElem? (i := 26) rfl)
theorem dL_law__1411 : decode cL_law_ 1411 = .ok (.iconst 1, 1) := decG_19 (1411, (.iconst 1, 1)) (List.mem_of_getElem? (i := 27) rfl)
theorem dL_law__1412 : decode cL_law_ 1412 = .ok (.iadd, 1) := decG_19 (1412, (.iadd, 1)) (List.mem_of_getElem? (i := 28) rfl)
theorem dL_law__1413 : decode cL_law_ 1413 = .ok (.iaload, 1) := decG_19 (1413, (.iaload, 1)) (List.mem_of_getElem? (i := 29) rfl)
theorem dL_law__1414 : decode cL_law_ 1414 = .ok (.aload_n 0, 1) := decG_19 (1414, (.aload_n 0, 1)) (List.mem_of_getElem? (i := 30) rfl)
theorem dL_law__1415 : decode cL_law_ 1415 = .ok (.iload 4, 2) := decG_19 (1415, (.iload 4, 2)) (List.mem_of_getElem? (i := 31) rfl)
theorem dL_law__1417 : decode cL_law_ 1417 = .ok (.iconst 2, 1) := decG_19 (1417, (.iconst 2, 1)) (List.mem_of_getElem? (i := 32) rfl)
theorem dL_law__1418 : decode cL_law_ 1418 = .ok (.iadd, 1) := decG_19 (1418, (.iadd, 1)) (List.mem_of_getElem? (i := 33) rfl)
theorem dL_law__1419 : decode cL_law_ 1419 = .ok (.iaload, 1) := decG_19 (1419, (.iaload, 1)) (List.mem_of_getElem? (i := 34) rfl)
theorem dL_law__1420 : decode cL_law_ 1420 = .ok (.invokevirtual 208, 3) := decG_19 (1420, (.invokevirtual 208, 3)) (List.mem_of_getElem? (i := 35) rfl)
theorem dL_law__1423 : decode cL_law_ 1423 = .ok (.istore 6, 2) := decG_19 (1423, (.istore 6, 2)) (List.mem_of_getElem? (i := 36) rfl)
theorem dL_law__1425 : decode cL_law_ 1425 = .ok (.aload_n 2, 1) := decG_19 (1425, (.aload_n 2, 1)) (List.mem_of_getElem? (i := 37) rfl)
theorem dL_law__1426 : decode cL_law_ 1426 = .ok (.invokevirtual 127, 3) := decG_19 (1426, (.invokevirtual 127, 3)) (List.mem_of_getElem? (i := 38) rfl)
theorem dL_law__1429 : decode cL_law_ 1429 = .ok (.iload 5, 2) := decG_19 (1429, (.iload 5, 2)) (List.mem_of_getElem? (i := 39) rfl)
set_option maxRecDepth 100000 in
theorem decG_20 : ∀ q ∈ ([(1431, (.if_icmp .eq 5, 3)), (1434, (.iconst 0, 1)), (1435, (.ireturn, 1)), (1436, (.iload 5, 2)), (1438, (.ifCond .ne 15, 3)), (1441, (.aload_n 3, 1)), (1442, (.iconst 0, 1)), (1443, (.laload, 1)), (1444, (.iload 6, 2)), (1446, (.i2l, 1)), (1447, (.lcmp, 1)), (1448, (.ifCond .eq 5, 3)), (1451, (.iconst 0, 1)), (1452, (.ireturn, 1)), (1453, (.goto 938, 3)), (1456, (.aload_n 1, 1)), (1457, (.aload_n 0, 1)), (1458, (.iload 4, 2)), (1460, (.iconst 1, 1)), (1461, (.iadd, 1)), (1462, (.iaload, 1)), (1463, (.aload_n 0, 1)), (1464, (.iload 4, 2)), (1466, (.iconst 2, 1)), (1467, (.iadd, 1)), (1468, (.iaload, 1)), (1469, (.ifCond .eq 7, 3)), (1472, (.iconst 1, 1)), (1473, (.goto 4, 3)), (1476, (.iconst 0, 1)), (1477, (.aload_n 3, 1)), (1478, (.invokestatic 209, 3)), (1481, (.istore 5, 2)), (1483, (.aload_n 2, 1)), (1484, (.aload_n 0, 1)), (1485, (.iload 4, 2)), (1487, (.iconst 1, 1)), (1488, (.iadd, 1)), (1489, (.iaload, 1)), (1490, (.aload_n 0, 1))] : List (Nat × (Instr × Nat))), decode cL_law_ q.1 = .ok q.2 := by decide +kernel
theorem dL_law__1431 : decode cL_law_ 1431 = .ok (.if_icmp .eq 5, 3) := decG_20 (1431, (.if_icmp .eq 5, 3)) (List.mem_of_getElem? (i := 0) rfl)
theorem dL_law__1434 : decode cL_law_ 1434 = .ok (.iconst 0, 1) := decG_20 (1434, (.iconst 0, 1)) (List.mem_of_getElem? (i := 1) rfl)
theorem dL_law__1435 : decode cL_law_ 1435 = .ok (.ireturn, 1) := decG_20 (1435, (.ireturn, 1)) (List.mem_of_getElem? (i := 2) rfl)
theorem dL_law__1436 : decode cL_law_ 1436 = .ok (.iload 5, 2) := decG_20 (1436, (.iload 5, 2)) (List.mem_of_getElem? (i := 3) rfl)
theorem dL_law__1438 : decode cL_law_ 1438 = .ok (.ifCond .ne 15, 3) := decG_20 (1438, (.ifCond .ne 15, 3)) (List.mem_of_getElem? (i := 4) rfl)
theorem dL_law__1441 : decode cL_law_ 1441 = .ok (.aload_n 3, 1) := decG_20 (1441, (.aload_n 3, 1)) (List.mem_of_getElem? (i := 5) rfl)
theorem dL_law__1442 : decode cL_law_ 1442 = .ok (.iconst 0, 1) := decG_20 (1442, (.iconst 0, 1)) (List.mem_of_getElem? (i := 6) rfl)
theorem dL_law__1443 : decode cL_law_ 1443 = .ok (.laload, 1) := decG_20 (1443, (.laload, 1)) (List.mem_of_getElem? (i := 7) rfl)
theorem dL_law__1444 : decode cL_law_ 1444 = .ok (.iload 6, 2) := decG_20 (1444, (.iload 6, 2)) (List.mem_of_getElem? (i := 8) rfl)
theorem dL_law__1446 : decode cL_law_ 1446 = .ok (.i2l, 1) := decG_20 (1446, (.i2l, 1)) (List.mem_of_getElem? (i := 9) rfl)
theorem dL_law__1447 : decode cL_law_ 1447 = .ok (.lcmp, 1) := decG_20 (1447, (.lcmp, 1)) (List.mem_of_getElem? (i := 10) rfl)
theorem dL_law__1448 : decode cL_law_ 1448 = .ok (.ifCond .eq 5, 3) := decG_20 (1448, (.ifCond .eq 5, 3)) (List.mem_of_getElem? (i := 11) rfl)
theorem dL_law__1451 : decode cL_law_ 1451 = .ok (.iconst 0, 1) := decG_20 (1451, (.iconst 0, 1)) (List.mem_of_getElem? (i := 12) rfl)
theorem dL_law__1452 : decode cL_law_ 1452 = .ok (.ireturn, 1) := decG_20 (1452, (.ireturn, 1)) (List.mem_of_getElem? (i := 13) rfl)
theorem dL_law__1453 : decode cL_law_ 1453 = .ok (.goto 938, 3) := decG_20 (1453, (.goto 938, 3)) (List.mem_of_getElem? (i := 14) rfl)
theorem dL_law__1456 : decode cL_law_ 1456 = .ok (.aload_n 1, 1) := decG_20 (1456, (.aload_n 1, 1)) (List.mem_of_getElem? (i := 15) rfl)
theorem dL_law__1457 : decode cL_law_ 1457 = .ok (.aload_n 0, 1) := decG_20 (1457, (.aload_n 0, 1)) (List.mem_of_getElem? (i := 16) rfl)
theorem dL_law__1458 : decode cL_law_ 1458 = .ok (.iload 4, 2) := decG_20 (1458, (.iload 4, 2)) (List.mem_of_getElem? (i := 17) rfl)
theorem dL_law__1460 : decode cL_law_ 1460 = .ok (.iconst 1, 1) := decG_20 (1460, (.iconst 1, 1)) (List.mem_of_getElem? (i := 18) rfl)
theorem dL_law__1461 : decode cL_law_ 1461 = .ok (.iadd, 1) := decG_20 (1461, (.iadd, 1)) (List.mem_of_getElem? (i := 19) rfl)
theorem dL_law__1462 : decode cL_law_ 1462 = .ok (.iaload, 1) := decG_20 (1462, (.iaload, 1)) (List.mem_of_getElem? (i := 20) rfl)
theorem dL_law__1463 : decode cL_law_ 1463 = .ok (.aload_n 0, 1) := decG_20 (1463, (.aload_n 0, 1)) (List.mem_of_getElem? (i := 21) rfl)
theorem dL_law__1464 : decode cL_law_ 1464 = .ok (.iload 4, 2) := decG_20 (1464, (.iload 4, 2)) (List.mem_of_getElem? (i := 22) rfl)
theorem dL_law__1466 : decode cL_law_ 1466 = .ok (.iconst 2, 1) := decG_20 (1466, (.iconst 2, 1)) (List.mem_of_getElem? (i := 23) rfl)
theorem dL_law__1467 : decode cL_law_ 1467 = .ok (.iadd, 1) := decG_20 (1467, (.iadd, 1)) (List.mem_of_getElem? (i := 24) rfl)
theorem dL_law__1468 : decode cL_law_ 1468 = .ok (.iaload, 1) := decG_20 (1468, (.iaload, 1)) (List.mem_of_getElem? (i := 25) rfl)
theorem dL_law__1469 : decode cL_law_ 1469 = .ok (.ifCond .eq 7, 3) := decG_20 (1469, (.ifCond .eq 7, 3)) (List.mem_of_getElem? (i := 26) rfl)
theorem dL_law__1472 : decode cL_law_ 1472 = .ok (.iconst 1, 1) := decG_20 (1472, (.iconst 1, 1)) (List.mem_of_getElem? (i := 27) rfl)
theorem dL_law__1473 : decode cL_law_ 1473 = .ok (.goto 4, 3) := decG_20 (1473, (.goto 4, 3)) (List.mem_of_getElem? (i := 28) rfl)
theorem dL_law__1476 : decode cL_law_ 1476 = .ok (.iconst 0, 1) := decG_20 (1476, (.iconst 0, 1)) (List.mem_of_getElem? (i := 29) rfl)
theorem dL_law__1477 : decode cL_law_ 1477 = .ok (.aload_n 3, 1) := decG_20 (1477, (.aload_n 3, 1)) (List.mem_of_getElem? (i := 30) rfl)
theorem dL_law__1478 : decode cL_law_ 1478 = .ok (.invokestatic 209, 3) := decG_20 (1478, (.invokestatic 209, 3)) (List.mem_of_getElem? (i := 31) rfl)
theorem dL_law__1481 : decode cL_law_ 1481 = .ok (.istore 5, 2) := decG_20 (1481, (.istore 5, 2)) (List.mem_of_getElem? (i := 32) rfl)
theorem dL_law__1483 : decode cL_law_ 1483 = .ok (.aload_n 2, 1) := decG_20 (1483, (.aload_n 2, 1)) (List.mem_of_getElem? (i := 33) rfl)
theorem dL_law__1484 : decode cL_law_ 1484 = .ok (.aload_n 0, 1) := decG_20 (1484, (.aload_n 0, 1)) (List.mem_of_getElem? (i := 34) rfl)
theorem dL_law__1485 : decode cL_law_ 1485 = .ok (.iload 4, 2) := decG_20 (1485, (.iload 4, 2)) (List.mem_of_getElem? (i := 35) rfl)
theorem dL_law__1487 : decode cL_law_ 1487 = .ok (.iconst 1, 1) := decG_20 (1487, (.iconst 1, 1)) (List.mem_of_getElem? (i := 36) rfl)
theorem dL_law__1488 : decode cL_law_ 1488 = .ok (.iadd, 1) := decG_20 (1488, (.iadd, 1)) (List.mem_of_getElem? (i := 37) rfl)
theorem dL_law__1489 : decode cL_law_ 1489 = .ok (.iaload, 1) := decG_20 (1489, (.iaload, 1)) (List.mem_of_getElem? (i := 38) rfl)
theorem dL_law__1490 : decode cL_law_ 1490 = .ok (.aload_n 0, 1) := decG_20 (1490, (.aload_n 0, 1)) (List.mem_of_getElem? (i := 39) rfl)
set_option maxRecDepth 100000 in
theorem decG_21 : ∀ q ∈ ([(1491, (.iload 4, 2)), (1493, (.iconst 2, 1)), (1494, (.iadd, 1)), (1495, (.iaload, 1)), (1496, (.ifCond .eq 7, 3)), (1499, (.iconst 1, 1)), (1500, (.goto 4, 3)), (1503, (.iconst 0, 1)), (1504, (.invokevirtual 211, 3)), (1507, (.istore 6, 2)), (1509, (.aload_n 2, 1)), (1510, (.invokevirtual 127, 3)), (1513, (.iload 5, 2)), (1515, (.if_icmp .eq 5, 3)), (1518, (.iconst 0, 1)), (1519, (.ireturn, 1)), (1520, (.iload 5, 2)), (1522, (.ifCond .ne 15, 3)), (1525, (.aload_n 3, 1)), (1526, (.iconst 0, 1)), (1527, (.laload, 1)), (1528, (.iload 6, 2)), (1530, (.i2l, 1)), (1531, (.lcmp, 1)), (1532, (.ifCond .eq 5, 3)), (1535, (.iconst 0, 1)), (1536, (.ireturn, 1)), (1537, (.goto 854, 3)), (1540, (.aload_n 1, 1)), (1541, (.aload_n 0, 1)), (1542, (.iload 4, 2)), (1544, (.iconst 1, 1)), (1545, (.iadd, 1)), (1546, (.iaload, 1)), (1547, (.ifCond .eq 7, 3)), (1550, (.iconst 1, 1)), (1551, (.goto 4, 3)), (1554, (.iconst 0, 1)), (1555, (.aload_n 3, 1)), (1556, (.invokestatic 212, 3))] : List (Nat × (Instr × Nat))), decode cL_law_ q.1 = .ok q.2 := by decide +kernel
theorem dL_law__1491 : decode cL_law_ 1491 = .ok (.iload 4, 2) := decG_21 (1491, (.iload 4, 2)) (List.mem_of_getElem? (i := 0) rfl)
theorem dL_law__1493 : decode cL_law_ 1493 = .ok (.iconst 2, 1) := decG_21 (1493, (.iconst 2, 1)) (List.mem_of_getElem? (i := 1) rfl)
theorem dL_law__1494 : decode cL_law_ 1494 = .ok (.iadd, 1) := decG_21 (1494, (.iadd, 1)) (List.mem_of_getElem? (i := 2) rfl)
theorem dL_law__1495 : decode cL_law_ 1495 = .ok (.iaload, 1) := decG_21 (1495, (.iaload, 1)) (List.mem_of_getElem? (i := 3) rfl)
theorem dL_law__1496 : decode cL_law_ 1496 = .ok (.ifCond .eq 7, 3) := decG_21 (1496, (.ifCond .eq 7, 3)) (List.mem_of_getElem? (i := 4) rfl)
theorem dL_law__1499 : decode cL_law_ 1499 = .ok (.iconst 1, 1) := decG_21 (1499, (.iconst 1, 1)) (List.mem_of_getElem? (i := 5) rfl)
theorem dL_law__1500 : decode cL_law_ 1500 = .ok (.goto 4, 3) := decG_21 (1500, (.goto 4, 3)) (List.mem_of_getElem? (i := 6) rfl)
theorem dL_law__1503 : decode cL_law_ 1503 = .ok (.iconst 0, 1) := decG_21 (1503, (.iconst 0, 1)) (List.mem_of_getElem? (i := 7) rfl)
theorem dL_law__1504 : decode cL_law_ 1504 = .ok (.invokevirtual 211, 3) := decG_21 (1504, (.invokevirtual 211, 3)) (List.mem_of_getElem? (i := 8) rfl)
theorem dL_law__1507 : decode cL_law_ 1507 = .ok (.istore 6, 2) := decG_21 (1507, (.istore 6, 2)) (List.mem_of_getElem? (i := 9) rfl)
theorem dL_law__1509 : decode cL_law_ 1509 = .ok (.aload_n 2, 1) := decG_21 (1509, (.aload_n 2, 1)) (List.mem_of_getElem? (i := 10) rfl)
theorem dL_law__1510 : decode cL_law_ 1510 = .ok (.invokevirtual 127, 3) := decG_21 (1510, (.invokevirtual 127, 3)) (List.mem_of_getElem? (i := 11) rfl)
theorem dL_law__1513 : decode cL_law_ 1513 = .ok (.iload 5, 2) := decG_21 (1513, (.iload 5, 2)) (List.mem_of_getElem? (i := 12) rfl)
theorem dL_law__1515 : decode cL_law_ 1515 = .ok (.if_icmp .eq 5, 3) := decG_21 (1515, (.if_icmp .eq 5, 3)) (List.mem_of_getElem? (i := 13) rfl)
theorem dL_law__1518 : decode cL_law_ 1518 = .ok (.iconst 0, 1) := decG_21 (1518, (.iconst 0, 1)) (List.mem_of_getElem? (i := 14) rfl)
theorem dL_law__1519 : decode cL_law_ 1519 = .ok (.ireturn, 1) := decG_21 (1519, (.ireturn, 1)) (List.mem_of_getElem? (i := 15) rfl)
theorem dL_law__1520 : decode cL_law_ 1520 = .ok (.iload 5, 2) := decG_21 (1520, (.iload 5, 2)) (List.mem_of_getElem? (i := 16) rfl)
theorem dL_law__1522 : decode cL_law_ 1522 = .ok (.ifCond .ne 15, 3) := decG_21 (1522, (.ifCond .ne 15, 3)) (List.mem_of_getElem? (i := 17) rfl)
theorem dL_law__1525 : decode cL_law_ 1525 = .ok (.aload_n 3, 1) := decG_21 (1525, (.aload_n 3, 1)) (List.mem_of_getElem? (i := 18) rfl)
theorem dL_law__1526 : decode cL_law_ 1526 = .ok (.iconst 0, 1) := decG_21 (1526, (.iconst 0, 1)) (List.mem_of_getElem? (i := 19) rfl)
theorem dL_law__1527 : decode cL_law_ 1527 = .ok (.laload, 1) := decG_21 (1527, (.laload, 1)) (List.mem_of_getElem? (i := 20) rfl)
theorem dL_law__1528 : decode cL_law_ 1528 = .ok (.iload 6, 2) := decG_21 (1528, (.iload 6, 2)) (List.mem_of_getElem? (i := 21) rfl)
theorem dL_law__1530 : decode cL_law_ 1530 = .ok (.i2l, 1) := decG_21 (1530, (.i2l, 1)) (List.mem_of_getElem? (i := 22) rfl)
theorem dL_law__1531 : decode cL_law_ 1531 = .ok (.lcmp, 1) := decG_21 (1531, (.lcmp, 1)) (List.mem_of_getElem? (i := 23) rfl)
theorem dL_law__1532 : decode cL_law_ 1532 = .ok (.ifCond .eq 5, 3) := decG_21 (1532, (.ifCond .eq 5, 3)) (List.mem_of_getElem? (i := 24) rfl)
theorem dL_law__1535 : decode cL_law_ 1535 = .ok (.iconst 0, 1) := decG_21 (1535, (.iconst 0, 1)) (List.mem_of_getElem? (i := 25) rfl)
theorem dL_law__1536 : decode cL_law_ 1536 = .ok (.ireturn, 1) := decG_21 (1536, (.ireturn, 1)) (List.mem_of_getElem? (i := 26) rfl)
theorem dL_law__1537 : decode cL_law_ 1537 = .ok (.goto 854, 3) := decG_21 (1537, (.goto 854, 3)) (List.mem_of_getElem? (i := 27) rfl)
theorem dL_law__1540 : decode cL_law_ 1540 = .ok (.aload_n 1, 1) := decG_21 (1540, (.aload_n 1, 1)) (List.mem_of_getElem? (i := 28) rfl)
theorem dL_law__1541 : decode cL_law_ 1541 = .ok (.aload_n 0, 1) := decG_21 (1541, (.aload_n 0, 1)) (List.mem_of_getElem? (i := 29) rfl)
theorem dL_law__1542 : decode cL_law_ 1542 = .ok (.iload 4, 2) := decG_21 (1542, (.iload 4, 2)) (List.mem_of_getElem? (i := 30) rfl)
theorem dL_law__1544 : decode cL_law_ 1544 = .ok (.iconst 1, 1) := decG_21 (1544, (.iconst 1, 1)) (List.mem_of_getElem? (i := 31) rfl)
theorem dL_law__1545 : decode cL_law_ 1545 = .ok (.iadd, 1) := decG_21 (1545, (.iadd, 1)) (List.mem_of_getElem? (i := 32) rfl)
theorem dL_law__1546 : decode cL_law_ 1546 = .ok (.iaload, 1) := decG_21 (1546, (.iaload, 1)) (List.mem_of_getElem? (i := 33) rfl)
theorem dL_law__1547 : decode cL_law_ 1547 = .ok (.ifCond .eq 7, 3) := decG_21 (1547, (.ifCond .eq 7, 3)) (List.mem_of_getElem? (i := 34) rfl)
theorem dL_law__1550 : decode cL_law_ 1550 = .ok (.iconst 1, 1) := decG_21 (1550, (.iconst 1, 1)) (List.mem_of_getElem? (i := 35) rfl)
theorem dL_law__1551 : decode cL_law_ 1551 = .ok (.goto 4, 3) := decG_21 (1551, (.goto 4, 3)) (List.mem_of_getElem? (i := 36) rfl)
theorem dL_law__1554 : decode cL_law_ 1554 = .ok (.iconst 0, 1) := decG_21 (1554, (.iconst 0, 1)) (List.mem_of_getElem? (i := 37) rfl)
theorem dL_law__1555 : decode cL_law_ 1555 = .ok (.aload_n 3, 1) := decG_21 (1555, (.aload_n 3, 1)) (List.mem_of_getElem? (i := 38) rfl)
theorem dL_law__1556 : decode cL_law_ 1556 = .ok (.invokestatic 212, 3) := decG_21 (1556, (.invokestatic 212, 3)) (List.mem_of_getElem? (i := 39) rfl)
set_option maxRecDepth 100000 in
theorem decG_22 : ∀ q ∈ ([(1559, (.istore 5, 2)), (1561, (.aload_n 2, 1)), (1562, (.aload_n 0, 1)), (1563, (.iload 4, 2)), (1565, (.iconst 1, 1)), (1566, (.iadd, 1)), (1567, (.iaload, 1)), (1568, (.ifCond .eq 7, 3)), (1571, (.iconst 1, 1)), (1572, (.goto 4, 3)), (1575, (.iconst 0, 1)), (1576, (.invokevirtual 215, 3)), (1579, (.istore 6, 2)), (1581, (.aload_n 2, 1)), (1582, (.invokevirtual 127, 3)), (1585, (.iload 5, 2)), (1587, (.if_icmp .eq 5, 3)), (1590, (.iconst 0, 1)), (1591, (.ireturn, 1)), (1592, (.iload 5, 2)), (1594, (.ifCond .ne 15, 3)), (1597, (.aload_n 3, 1)), (1598, (.iconst 0, 1)), (1599, (.laload, 1)), (1600, (.iload 6, 2)), (1602, (.i2l, 1)), (1603, (.lcmp, 1)), (1604, (.ifCond .eq 5, 3)), (1607, (.iconst 0, 1)), (1608, (.ireturn, 1)), (1609, (.goto 782, 3)), (1612, (.aload_n 1, 1)), (1613, (.aload_n 3, 1)), (1614, (.invokestatic 216, 3)), (1617, (.istore 5, 2)), (1619, (.aload_n 2, 1)), (1620, (.invokevirtual 218, 3)), (1623, (.istore 6, 2)), (1625, (.aload_n 2, 1)), (1626, (.invokevirtual 127, 3))] : List (Nat × (Instr × Nat))), decode cL_law_ q.1 = .ok q.2 := by decide +kernel
theorem dL_law__1559 : decode cL_law_ 1559 = .ok (.istore 5, 2) := decG_22 (1559, (.istore 5, 2)) (List.mem_of_getElem? (i := 0) rfl)
theorem dL_law__1561 : decode cL_law_ 1561 = .ok (.aload_n 2, 1) := decG_22 (1561, (.aload_n 2, 1)) (List.mem_of_getElem? (i := 1) rfl)
theorem dL_law__1562 : decode cL_law_ 1562 = .ok (.aload_n 0, 1) := decG_22 (1562, (.aload_n 0, 1)) (List.mem_of_getElem? (i := 2) rfl)
theorem dL_law__1563 : decode cL_law_ 1563 = .ok (.iload 4, 2) := decG_22 (1563, (.iload 4, 2)) (List.mem_of_getElem? (i := 3) rfl)
theorem dL_law__1565 : decode cL_law_ 1565 = .ok (.iconst 1, 1) := decG_22 (1565, (.iconst 1, 1)) (List.mem_of_getElem? (i := 4) rfl)
theorem dL_law__1566 : decode cL_law_ 1566 = .ok (.iadd, 1) := decG_22 (1566, (.iadd, 1)) (List.mem_of_getElem? (i := 5) rfl)
theorem dL_law__1567 : decode cL_law_ 1567 = .ok (.iaload, 1) := decG_22 (1567, (.iaload, 1)) (List.mem_of_getElem? (i := 6) rfl)
theorem dL_law__1568 : decode cL_law_ 1568 = .ok (.ifCond .eq 7, 3) := decG_22 (1568, (.ifCond .eq 7, 3)) (List.mem_of_getElem? (i := 7) rfl)
theorem dL_law__1571 : decode cL_law_ 1571 = .ok (.iconst 1, 1) := decG_22 (1571, (.iconst 1, 1)) (List.mem_of_getElem? (i := 8) rfl)
theorem dL_law__1572 : decode cL_law_ 1572 = .ok (.goto 4, 3) := decG_22 (1572, (.goto 4, 3)) (List.mem_of_getElem? (i := 9) rfl)
theorem dL_law__1575 : decode cL_law_ 1575 = .ok (.iconst 0, 1) := decG_22 (1575, (.iconst 0, 1)) (List.mem_of_getElem? (i := 10) rfl)
theorem dL_law__1576 : decode cL_law_ 1576 = .ok (.invokevirtual 215, 3) := decG_22 (1576, (.invokevirtual 215, 3)) (List.mem_of_getElem? (i := 11) rfl)
theorem dL_law__1579 : decode cL_law_ 1579 = .ok (.istore 6, 2) := decG_22 (1579, (.istore 6, 2)) (List.mem_of_getElem? (i := 12) rfl)
theorem dL_law__1581 : decode cL_law_ 1581 = .ok (.aload_n 2, 1) := decG_22 (1581, (.aload_n 2, 1)) (List.mem_of_getElem? (i := 13) rfl)
theorem dL_law__1582 : decode cL_law_ 1582 = .ok (.invokevirtual 127, 3) := decG_22 (1582, (.invokevirtual 127, 3)) (List.mem_of_getElem? (i := 14) rfl)
theorem dL_law__1585 : decode cL_law_ 1585 = .ok (.iload 5, 2) := decG_22 (1585, (.iload 5, 2)) (List.mem_of_getElem? (i := 15) rfl)
theorem dL_law__1587 : decode cL_law_ 1587 = .ok (.if_icmp .eq 5, 3) := decG_22 (1587, (.if_icmp .eq 5, 3)) (List.mem_of_getElem? (i := 16) rfl)
theorem dL_law__1590 : decode cL_law_ 1590 = .ok (.iconst 0, 1) := decG_22 (1590, (.iconst 0, 1)) (List.mem_of_getElem? (i := 17) rfl)
theorem dL_law__1591 : decode cL_law_ 1591 = .ok (.ireturn, 1) := decG_22 (1591, (.ireturn, 1)) (List.mem_of_getElem? (i := 18) rfl)
theorem dL_law__1592 : decode cL_law_ 1592 = .ok (.iload 5, 2) := decG_22 (1592, (.iload 5, 2)) (List.mem_of_getElem? (i := 19) rfl)
theorem dL_law__1594 : decode cL_law_ 1594 = .ok (.ifCond .ne 15, 3) := decG_22 (1594, (.ifCond .ne 15, 3)) (List.mem_of_getElem? (i := 20) rfl)
theorem dL_law__1597 : decode cL_law_ 1597 = .ok (.aload_n 3, 1) := decG_22 (1597, (.aload_n 3, 1)) (List.mem_of_getElem? (i := 21) rfl)
theorem dL_law__1598 : decode cL_law_ 1598 = .ok (.iconst 0, 1) := decG_22 (1598, (.iconst 0, 1)) (List.mem_of_getElem? (i := 22) rfl)
theorem dL_law__1599 : decode cL_law_ 1599 = .ok (.laload, 1) := decG_22 (1599, (.laload, 1)) (List.mem_of_getElem? (i := 23) rfl)
theorem dL_law__1600 : decode cL_law_ 1600 = .ok (.iload 6, 2) := decG_22 (1600, (.iload 6, 2)) (List.mem_of_getElem? (i := 24) rfl)
theorem dL_law__1602 : decode cL_law_ 1602 = .ok (.i2l, 1) := decG_22 (1602, (.i2l, 1)) (List.mem_of_getElem? (i := 25) rfl)
theorem dL_law__1603 : decode cL_law_ 1603 = .ok (.lcmp, 1) := decG_22 (1603, (.lcmp, 1)) (List.mem_of_getElem? (i := 26) rfl)
theorem dL_law__1604 : decode cL_law_ 1604 = .ok (.ifCond .eq 5, 3) := decG_22 (1604, (.ifCond .eq 5, 3)) (List.mem_of_getElem? (i := 27) rfl)
theorem dL_law__1607 : decode cL_law_ 1607 = .ok (.iconst 0, 1) := decG_22 (1607, (.iconst 0, 1)) (List.mem_of_getElem? (i := 28) rfl)
theorem dL_law__1608 : decode cL_law_ 1608 = .ok (.ireturn, 1) := decG_22 (1608, (.ireturn, 1)) (List.mem_of_getElem? (i := 29) rfl)
theorem dL_law__1609 : decode cL_law_ 1609 = .ok (.goto 782, 3) := decG_22 (1609, (.goto 782, 3)) (List.mem_of_getElem? (i := 30) rfl)
theorem dL_law__1612 : decode cL_law_ 1612 = .ok (.aload_n 1, 1) := decG_22 (1612, (.aload_n 1, 1)) (List.mem_of_getElem? (i := 31) rfl)
theorem dL_law__1613 : decode cL_law_ 1613 = .ok (.aload_n 3, 1) := decG_22 (1613, (.aload_n 3, 1)) (List.mem_of_getElem? (i := 32) rfl)
theorem dL_law__1614 : decode cL_law_ 1614 = .ok (.invokestatic 216, 3) := decG_22 (1614, (.invokestatic 216, 3)) (List.mem_of_getElem? (i := 33) rfl)
theorem dL_law__1617 : decode cL_law_ 1617 = .ok (.istore 5, 2) := decG_22 (1617, (.istore 5, 2)) (List.mem_of_getElem? (i := 34) rfl)
theorem dL_law__1619 : decode cL_law_ 1619 = .ok (.aload_n 2, 1) := decG_22 (1619, (.aload_n 2, 1)) (List.mem_of_getElem? (i := 35) rfl)
theorem dL_law__1620 : decode cL_law_ 1620 = .ok (.invokevirtual 218, 3) := decG_22 (1620, (.invokevirtual 218, 3)) (List.mem_of_getElem? (i := 36) rfl)
theorem dL_law__1623 : decode cL_law_ 1623 = .ok (.istore 6, 2) := decG_22 (1623, (.istore 6, 2)) (List.mem_of_getElem? (i := 37) rfl)
theorem dL_law__1625 : decode cL_law_ 1625 = .ok (.aload_n 2, 1) := decG_22 (1625, (.aload_n 2, 1)) (List.mem_of_getElem? (i := 38) rfl)
theorem dL_law__1626 : decode cL_law_ 1626 = .ok (.invokevirtual 127, 3) := decG_22 (1626, (.invokevirtual 127, 3)) (List.mem_of_getElem? (i := 39) rfl)
set_option maxRecDepth 100000 in
theorem decG_23 : ∀ q ∈ ([(1629, (.iload 5, 2)), (1631, (.if_icmp .eq 5, 3)), (1634, (.iconst 0, 1)), (1635, (.ireturn, 1)), (1636, (.iload 5, 2)), (1638, (.ifCond .ne 15, 3)), (1641, (.aload_n 3, 1)), (1642, (.iconst 0, 1)), (1643, (.laload, 1)), (1644, (.iload 6, 2)), (1646, (.i2l, 1)), (1647, (.lcmp, 1)), (1648, (.ifCond .eq 5, 3)), (1651, (.iconst 0, 1)), (1652, (.ireturn, 1)), (1653, (.goto 738, 3)), (1656, (.aload_n 1, 1)), (1657, (.aload_n 0, 1)), (1658, (.iload 4, 2)), (1660, (.iconst 1, 1)), (1661, (.iadd, 1)), (1662, (.iaload, 1)), (1663, (.aload_n 0, 1)), (1664, (.iload 4, 2)), (1666, (.iconst 2, 1)), (1667, (.iadd, 1)), (1668, (.iaload, 1)), (1669, (.aload_n 0, 1)), (1670, (.iload 4, 2)), (1672, (.iconst 3, 1)), (1673, (.iadd, 1)), (1674, (.iaload, 1)), (1675, (.aload_n 3, 1)), (1676, (.invokestatic 219, 3)), (1679, (.istore 5, 2)), (1681, (.aload_n 2, 1)), (1682, (.aload_n 0, 1)), (1683, (.iload 4, 2)), (1685, (.iconst 1, 1)), (1686, (.iadd, 1))] : List (Nat × (Instr × Nat))), decode cL_law_ q.1 = .ok q.2 := by decide +kernel
theorem dL_law__1629 : decode cL_law_ 1629 = .ok (.iload 5, 2) := decG_23 (1629, (.iload 5, 2)) (List.mem_of_getElem? (i := 0) rfl)
theorem dL_law__1631 : decode cL_law_ 1631 = .ok (.if_icmp .eq 5, 3) := decG_23 (1631, (.if_icmp .eq 5, 3)) (List.mem_of_getElem? (i := 1) rfl)
theorem dL_law__1634 : decode cL_law_ 1634 = .ok (.iconst 0, 1) := decG_23 (1634, (.iconst 0, 1)) (List.mem_of_getElem? (i := 2) rfl)
theorem dL_law__1635 : decode cL_law_ 1635 = .ok (.ireturn, 1) := decG_23 (1635, (.ireturn, 1)) (List.mem_of_getElem? (i := 3) rfl)
theorem dL_law__1636 : decode cL_law_ 1636 = .ok (.iload 5, 2) := decG_23 (1636, (.iload 5, 2)) (List.mem_of_getElem? (i := 4) rfl)
theorem dL_law__1638 : decode cL_law_ 1638 = .ok (.ifCond .ne 15, 3) := decG_23 (1638, (.ifCond .ne 15, 3)) (List.mem_of_getElem? (i := 5) rfl)
theorem dL_law__1641 : decode cL_law_ 1641 = .ok (.aload_n 3, 1) := decG_23 (1641, (.aload_n 3, 1)) (List.mem_of_getElem? (i := 6) rfl)
theorem dL_law__1642 : decode cL_law_ 1642 = .ok (.iconst 0, 1) := decG_23 (1642, (.iconst 0, 1)) (List.mem_of_getElem? (i := 7) rfl)
theorem dL_law__1643 : decode cL_law_ 1643 = .ok (.laload, 1) := decG_23 (1643, (.laload, 1)) (List.mem_of_getElem? (i := 8) rfl)
theorem dL_law__1644 : decode cL_law_ 1644 = .ok (.iload 6, 2) := decG_23 (1644, (.iload 6, 2)) (List.mem_of_getElem? (i := 9) rfl)
theorem dL_law__1646 : decode cL_law_ 1646 = .ok (.i2l, 1) := decG_23 (1646, (.i2l, 1)) (List.mem_of_getElem? (i := 10) rfl)
theorem dL_law__1647 : decode cL_law_ 1647 = .ok (.lcmp, 1) := decG_23 (1647, (.lcmp, 1)) (List.mem_of_getElem? (i := 11) rfl)
theorem dL_law__1648 : decode cL_law_ 1648 = .ok (.ifCond .eq 5, 3) := decG_23 (1648, (.ifCond .eq 5, 3)) (List.mem_of_getElem? (i := 12) rfl)
theorem dL_law__1651 : decode cL_law_ 1651 = .ok (.iconst 0, 1) := decG_23 (1651, (.iconst 0, 1)) (List.mem_of_getElem? (i := 13) rfl)
theorem dL_law__1652 : decode cL_law_ 1652 = .ok (.ireturn, 1) := decG_23 (1652, (.ireturn, 1)) (List.mem_of_getElem? (i := 14) rfl)
theorem dL_law__1653 : decode cL_law_ 1653 = .ok (.goto 738, 3) := decG_23 (1653, (.goto 738, 3)) (List.mem_of_getElem? (i := 15) rfl)
theorem dL_law__1656 : decode cL_law_ 1656 = .ok (.aload_n 1, 1) := decG_23 (1656, (.aload_n 1, 1)) (List.mem_of_getElem? (i := 16) rfl)
theorem dL_law__1657 : decode cL_law_ 1657 = .ok (.aload_n 0, 1) := decG_23 (1657, (.aload_n 0, 1)) (List.mem_of_getElem? (i := 17) rfl)
theorem dL_law__1658 : decode cL_law_ 1658 = .ok (.iload 4, 2) := decG_23 (1658, (.iload 4, 2)) (List.mem_of_getElem? (i := 18) rfl)
theorem dL_law__1660 : decode cL_law_ 1660 = .ok (.iconst 1, 1) := decG_23 (1660, (.iconst 1, 1)) (List.mem_of_getElem? (i := 19) rfl)
theorem dL_law__1661 : decode cL_law_ 1661 = .ok (.iadd, 1) := decG_23 (1661, (.iadd, 1)) (List.mem_of_getElem? (i := 20) rfl)
theorem dL_law__1662 : decode cL_law_ 1662 = .ok (.iaload, 1) := decG_23 (1662, (.iaload, 1)) (List.mem_of_getElem? (i := 21) rfl)
theorem dL_law__1663 : decode cL_law_ 1663 = .ok (.aload_n 0, 1) := decG_23 (1663, (.aload_n 0, 1)) (List.mem_of_getElem? (i := 22) rfl)
theorem dL_law__1664 : decode cL_law_ 1664 = .ok (.iload 4, 2) := decG_23 (1664, (.iload 4, 2)) (List.mem_of_getElem? (i := 23) rfl)
theorem dL_law__1666 : decode cL_law_ 1666 = .ok (.iconst 2, 1) := decG_23 (1666, (.iconst 2, 1)) (List.mem_of_getElem? (i := 24) rfl)
theorem dL_law__1667 : decode cL_law_ 1667 = .ok (.iadd, 1) := decG_23 (1667, (.iadd, 1)) (List.mem_of_getElem? (i := 25) rfl)
theorem dL_law__1668 : decode cL_law_ 1668 = .ok (.iaload, 1) := decG_23 (1668, (.iaload, 1)) (List.mem_of_getElem? (i := 26) rfl)
theorem dL_law__1669 : decode cL_law_ 1669 = .ok (.aload_n 0, 1) := decG_23 (1669, (.aload_n 0, 1)) (List.mem_of_getElem? (i := 27) rfl)
theorem dL_law__1670 : decode cL_law_ 1670 = .ok (.iload 4, 2) := decG_23 (1670, (.iload 4, 2)) (List.mem_of_getElem? (i := 28) rfl)
theorem dL_law__1672 : decode cL_law_ 1672 = .ok (.iconst 3, 1) := decG_23 (1672, (.iconst 3, 1)) (List.mem_of_getElem? (i := 29) rfl)
theorem dL_law__1673 : decode cL_law_ 1673 = .ok (.iadd, 1) := decG_23 (1673, (.iadd, 1)) (List.mem_of_getElem? (i := 30) rfl)
theorem dL_law__1674 : decode cL_law_ 1674 = .ok (.iaload, 1) := decG_23 (1674, (.iaload, 1)) (List.mem_of_getElem? (i := 31) rfl)
theorem dL_law__1675 : decode cL_law_ 1675 = .ok (.aload_n 3, 1) := decG_23 (1675, (.aload_n 3, 1)) (List.mem_of_getElem? (i := 32) rfl)
theorem dL_law__1676 : decode cL_law_ 1676 = .ok (.invokestatic 219, 3) := decG_23 (1676, (.invokestatic 219, 3)) (List.mem_of_getElem? (i := 33) rfl)
theorem dL_law__1679 : decode cL_law_ 1679 = .ok (.istore 5, 2) := decG_23 (1679, (.istore 5, 2)) (List.mem_of_getElem? (i := 34) rfl)
theorem dL_law__1681 : decode cL_law_ 1681 = .ok (.aload_n 2, 1) := decG_23 (1681, (.aload_n 2, 1)) (List.mem_of_getElem? (i := 35) rfl)
theorem dL_law__1682 : decode cL_law_ 1682 = .ok (.aload_n 0, 1) := decG_23 (1682, (.aload_n 0, 1)) (List.mem_of_getElem? (i := 36) rfl)
theorem dL_law__1683 : decode cL_law_ 1683 = .ok (.iload 4, 2) := decG_23 (1683, (.iload 4, 2)) (List.mem_of_getElem? (i := 37) rfl)
theorem dL_law__1685 : decode cL_law_ 1685 = .ok (.iconst 1, 1) := decG_23 (1685, (.iconst 1, 1)) (List.mem_of_getElem? (i := 38) rfl)
theorem dL_law__1686 : decode cL_law_ 1686 = .ok (.iadd, 1) := decG_23 (1686, (.iadd, 1)) (List.mem_of_getElem? (i := 39) rfl)
set_option maxRecDepth 100000 in
theorem decG_24 : ∀ q ∈ ([(1687, (.iaload, 1)), (1688, (.aload_n 0, 1)), (1689, (.iload 4, 2)), (1691, (.iconst 2, 1)), (1692, (.iadd, 1)), (1693, (.iaload, 1)), (1694, (.aload_n 0, 1)), (1695, (.iload 4, 2)), (1697, (.iconst 3, 1)), (1698, (.iadd, 1)), (1699, (.iaload, 1)), (1700, (.invokevirtual 222, 3)), (1703, (.istore 6, 2)), (1705, (.aload_n 2, 1)), (1706, (.invokevirtual 127, 3)), (1709, (.iload 5, 2)), (1711, (.if_icmp .eq 5, 3)), (1714, (.iconst 0, 1)), (1715, (.ireturn, 1)), (1716, (.iload 5, 2)), (1718, (.ifCond .ne 15, 3)), (1721, (.aload_n 3, 1)), (1722, (.iconst 0, 1)), (1723, (.laload, 1)), (1724, (.iload 6, 2)), (1726, (.i2l, 1)), (1727, (.lcmp, 1)), (1728, (.ifCond .eq 5, 3)), (1731, (.iconst 0, 1)), (1732, (.ireturn, 1)), (1733, (.goto 658, 3)), (1736, (.aload_n 1, 1)), (1737, (.aload_n 0, 1)), (1738, (.iload 4, 2)), (1740, (.iconst 1, 1)), (1741, (.iadd, 1)), (1742, (.iaload, 1)), (1743, (.aload_n 0, 1)), (1744, (.iload 4, 2)), (1746, (.iconst 2, 1))] : List (Nat × (Instr × Nat))), decode cL_law_ q.1 = .ok q.2 := by decide +kernel
theorem dL_law__1687 : decode cL_law_ 1687 = .ok (.iaload, 1) := decG_24 (1687, (.iaload, 1)) (List.mem_of_getElem? (i := 0) rfl)
theorem dL_law__1688 : decode cL_law_ 1688 = .ok (.aload_n 0, 1) := decG_24 (1688, (.aload_n 0, 1)) (List.mem_of_getElem? (i := 1) rfl)
theorem dL_law__1689 : decode cL_law_ 1689 = .ok (.iload 4, 2) := decG_24 (1689, (.iload 4, 2)) (List.mem_of_getElem? (i := 2) rfl)
theorem dL_law__1691 : decode cL_law_ 1691 = .ok (.iconst 2, 1) := decG_24 (1691, (.iconst 2, 1)) (List.mem_of_getElem? (i := 3) rfl)
theorem dL_law__1692 : decode cL_law_ 1692 = .ok (.iadd, 1) := decG_24 (1692, (.iadd, 1)) (List.mem_of_getElem? (i := 4) rfl)
theorem dL_law__1693 : decode cL_law_ 1693 = .ok (.iaload, 1) := decG_24 (1693, (.iaload, 1)) (List.mem_of_getElem? (i := 5) rfl)
theorem dL_law__1694 : decode cL_law_ 1694 = .ok (.aload_n 0, 1) := decG_24 (1694, (.aload_n 0, 1)) (List.mem_of_getElem? (i := 6) rfl)
theorem dL_law__1695 : decode cL_law_ 1695 = .ok (.iload 4, 2) := decG_24 (1695, (.iload 4, 2)) (List.mem_of_getElem? (i := 7) rfl)
theorem dL_law__1697 : decode cL_law_ 1697 = .ok (.iconst 3, 1) := decG_24 (1697, (.iconst 3, 1)) (List.mem_of_getElem? (i := 8) rfl)
theorem dL_law__1698 : decode cL_law_ 1698 = .ok (.iadd, 1) := decG_24 (1698, (.iadd, 1)) (List.mem_of_getElem? (i := 9) rfl)
theorem dL_law__1699 : decode cL_law_ 1699 = .ok (.iaload, 1) := decG_24 (1699, (.iaload, 1)) (List.mem_of_getElem? (i := 10) rfl)
theorem dL_law__1700 : decode cL_law_ 1700 = .ok (.invokevirtual 222, 3) := decG_24 (1700, (.invokevirtual 222, 3)) (List.mem_of_getElem? (i := 11) rfl)
theorem dL_law__1703 : decode cL_law_ 1703 = .ok (.istore 6, 2) := decG_24 (1703, (.istore 6, 2)) (List.mem_of_getElem? (i := 12) rfl)
theorem dL_law__1705 : decode cL_law_ 1705 = .ok (.aload_n 2, 1) := decG_24 (1705, (.aload_n 2, 1)) (List.mem_of_getElem? (i := 13) rfl)
theorem dL_law__1706 : decode cL_law_ 1706 = .ok (.invokevirtual 127, 3) := decG_24 (1706, (.invokevirtual 127, 3)) (List.mem_of_getElem? (i := 14) rfl)
theorem dL_law__1709 : decode cL_law_ 1709 = .ok (.iload 5, 2) := decG_24 (1709, (.iload 5, 2)) (List.mem_of_getElem? (i := 15) rfl)
theorem dL_law__1711 : decode cL_law_ 1711 = .ok (.if_icmp .eq 5, 3) := decG_24 (1711, (.if_icmp .eq 5, 3)) (List.mem_of_getElem? (i := 16) rfl)
theorem dL_law__1714 : decode cL_law_ 1714 = .ok (.iconst 0, 1) := decG_24 (1714, (.iconst 0, 1)) (List.mem_of_getElem? (i := 17) rfl)
theorem dL_law__1715 : decode cL_law_ 1715 = .ok (.ireturn, 1) := decG_24 (1715, (.ireturn, 1)) (List.mem_of_getElem? (i := 18) rfl)
theorem dL_law__1716 : decode cL_law_ 1716 = .ok (.iload 5, 2) := decG_24 (1716, (.iload 5, 2)) (List.mem_of_getElem? (i := 19) rfl)
theorem dL_law__1718 : decode cL_law_ 1718 = .ok (.ifCond .ne 15, 3) := decG_24 (1718, (.ifCond .ne 15, 3)) (List.mem_of_getElem? (i := 20) rfl)
theorem dL_law__1721 : decode cL_law_ 1721 = .ok (.aload_n 3, 1) := decG_24 (1721, (.aload_n 3, 1)) (List.mem_of_getElem? (i := 21) rfl)
theorem dL_law__1722 : decode cL_law_ 1722 = .ok (.iconst 0, 1) := decG_24 (1722, (.iconst 0, 1)) (List.mem_of_getElem? (i := 22) rfl)
theorem dL_law__1723 : decode cL_law_ 1723 = .ok (.laload, 1) := decG_24 (1723, (.laload, 1)) (List.mem_of_getElem? (i := 23) rfl)
theorem dL_law__1724 : decode cL_law_ 1724 = .ok (.iload 6, 2) := decG_24 (1724, (.iload 6, 2)) (List.mem_of_getElem? (i := 24) rfl)
theorem dL_law__1726 : decode cL_law_ 1726 = .ok (.i2l, 1) := decG_24 (1726, (.i2l, 1)) (List.mem_of_getElem? (i := 25) rfl)
theorem dL_law__1727 : decode cL_law_ 1727 = .ok (.lcmp, 1) := decG_24 (1727, (.lcmp, 1)) (List.mem_of_getElem? (i := 26) rfl)
theorem dL_law__1728 : decode cL_law_ 1728 = .ok (.ifCond .eq 5, 3) := decG_24 (1728, (.ifCond .eq 5, 3)) (List.mem_of_getElem? (i := 27) rfl)
theorem dL_law__1731 : decode cL_law_ 1731 = .ok (.iconst 0, 1) := decG_24 (1731, (.iconst 0, 1)) (List.mem_of_getElem? (i := 28) rfl)
theorem dL_law__1732 : decode cL_law_ 1732 = .ok (.ireturn, 1) := decG_24 (1732, (.ireturn, 1)) (List.mem_of_getElem? (i := 29) rfl)
theorem dL_law__1733 : decode cL_law_ 1733 = .ok (.goto 658, 3) := decG_24 (1733, (.goto 658, 3)) (List.mem_of_getElem? (i := 30) rfl)
theorem dL_law__1736 : decode cL_law_ 1736 = .ok (.aload_n 1, 1) := decG_24 (1736, (.aload_n 1, 1)) (List.mem_of_getElem? (i := 31) rfl)
theorem dL_law__1737 : decode cL_law_ 1737 = .ok (.aload_n 0, 1) := decG_24 (1737, (.aload_n 0, 1)) (List.mem_of_getElem? (i := 32) rfl)
theorem dL_law__1738 : decode cL_law_ 1738 = .ok (.iload 4, 2) := decG_24 (1738, (.iload 4, 2)) (List.mem_of_getElem? (i := 33) rfl)
theorem dL_law__1740 : decode cL_law_ 1740 = .ok (.iconst 1, 1) := decG_24 (1740, (.iconst 1, 1)) (List.mem_of_getElem? (i := 34) rfl)
theorem dL_law__1741 : decode cL_law_ 1741 = .ok (.iadd, 1) := decG_24 (1741, (.iadd, 1)) (List.mem_of_getElem? (i := 35) rfl)
theorem dL_law__1742 : decode cL_law_ 1742 = .ok (.iaload, 1) := decG_24 (1742, (.iaload, 1)) (List.mem_of_getElem? (i := 36) rfl)
theorem dL_law__1743 : decode cL_law_ 1743 = .ok (.aload_n 0, 1) := decG_24 (1743, (.aload_n 0, 1)) (List.mem_of_getElem? (i := 37) rfl)
theorem dL_law__1744 : decode cL_law_ 1744 = .ok (.iload 4, 2) := decG_24 (1744, (.iload 4, 2)) (List.mem_of_getElem? (i := 38) rfl)
theorem dL_law__1746 : decode cL_law_ 1746 = .ok (.iconst 2, 1) := decG_24 (1746, (.iconst 2, 1)) (List.mem_of_getElem? (i := 39) rfl)
set_option maxRecDepth 100000 in
theorem decG_25 : ∀ q ∈ ([(1747, (.iadd, 1)), (1748, (.iaload, 1)), (1749, (.aload_n 0, 1)), (1750, (.iload 4, 2)), (1752, (.iconst 3, 1)), (1753, (.iadd, 1)), (1754, (.iaload, 1)), (1755, (.aload_n 3, 1)), (1756, (.invokestatic 223, 3)), (1759, (.istore 5, 2)), (1761, (.aload_n 2, 1)), (1762, (.aload_n 0, 1)), (1763, (.iload 4, 2)), (1765, (.iconst 1, 1)), (1766, (.iadd, 1)), (1767, (.iaload, 1)), (1768, (.aload_n 0, 1)), (1769, (.iload 4, 2)), (1771, (.iconst 2, 1)), (1772, (.iadd, 1)), (1773, (.iaload, 1)), (1774, (.aload_n 0, 1)), (1775, (.iload 4, 2)), (1777, (.iconst 3, 1)), (1778, (.iadd, 1)), (1779, (.iaload, 1)), (1780, (.invokevirtual 225, 3)), (1783, (.istore 6, 2)), (1785, (.aload_n 2, 1)), (1786, (.invokevirtual 127, 3)), (1789, (.iload 5, 2)), (1791, (.if_icmp .eq 5, 3)), (1794, (.iconst 0, 1)), (1795, (.ireturn, 1)), (1796, (.iload 5, 2)), (1798, (.ifCond .ne 15, 3)), (1801, (.aload_n 3, 1)), (1802, (.iconst 0, 1)), (1803, (.laload, 1)), (1804, (.iload 6, 2))] : List (Nat × (Instr × Nat))), decode cL_law_ q.1 = .ok q.2 := by decide +kernel
theorem dL_law__1747 : decode cL_law_ 1747 = .ok (.iadd, 1) := decG_25 (1747, (.iadd, 1)) (List.mem_of_getElem? (i := 0) rfl)
theorem dL_law__1748 : decode cL_law_ 1748 = .ok (.iaload, 1) := decG_25 (1748, (.iaload, 1)) (List.mem_of_getElem? (i := 1) rfl)
theorem dL_law__1749 : decode cL_law_ 1749 = .ok (.aload_n 0, 1) := decG_25 (1749, (.aload_n 0, 1)) (List.mem_of_getElem? (i := 2) rfl)
theorem dL_law__1750 : decode cL_law_ 1750 = .ok (.iload 4, 2) := decG_25 (1750, (.iload 4, 2)) (List.mem_of_getElem? (i := 3) rfl)
theorem dL_law__1752 : decode cL_law_ 1752 = .ok (.iconst 3, 1) := decG_25 (1752, (.iconst 3, 1)) (List.mem_of_getElem? (i := 4) rfl)
theorem dL_law__1753 : decode cL_law_ 1753 = .ok (.iadd, 1) := decG_25 (1753, (.iadd, 1)) (List.mem_of_getElem? (i := 5) rfl)
theorem dL_law__1754 : decode cL_law_ 1754 = .ok (.iaload, 1) := decG_25 (1754, (.iaload, 1)) (List.mem_of_getElem? (i := 6) rfl)
theorem dL_law__1755 : decode cL_law_ 1755 = .ok (.aload_n 3, 1) := decG_25 (1755, (.aload_n 3, 1)) (List.mem_of_getElem? (i := 7) rfl)
theorem dL_law__1756 : decode cL_law_ 1756 = .ok (.invokestatic 223, 3) := decG_25 (1756, (.invokestatic 223, 3)) (List.mem_of_getElem? (i := 8) rfl)
theorem dL_law__1759 : decode cL_law_ 1759 = .ok (.istore 5, 2) := decG_25 (1759, (.istore 5, 2)) (List.mem_of_getElem? (i := 9) rfl)
theorem dL_law__1761 : decode cL_law_ 1761 = .ok (.aload_n 2, 1) := decG_25 (1761, (.aload_n 2, 1)) (List.mem_of_getElem? (i := 10) rfl)
theorem dL_law__1762 : decode cL_law_ 1762 = .ok (.aload_n 0, 1) := decG_25 (1762, (.aload_n 0, 1)) (List.mem_of_getElem? (i := 11) rfl)
theorem dL_law__1763 : decode cL_law_ 1763 = .ok (.iload 4, 2) := decG_25 (1763, (.iload 4, 2)) (List.mem_of_getElem? (i := 12) rfl)
theorem dL_law__1765 : decode cL_law_ 1765 = .ok (.iconst 1, 1) := decG_25 (1765, (.iconst 1, 1)) (List.mem_of_getElem? (i := 13) rfl)
theorem dL_law__1766 : decode cL_law_ 1766 = .ok (.iadd, 1) := decG_25 (1766, (.iadd, 1)) (List.mem_of_getElem? (i := 14) rfl)
theorem dL_law__1767 : decode cL_law_ 1767 = .ok (.iaload, 1) := decG_25 (1767, (.iaload, 1)) (List.mem_of_getElem? (i := 15) rfl)
theorem dL_law__1768 : decode cL_law_ 1768 = .ok (.aload_n 0, 1) := decG_25 (1768, (.aload_n 0, 1)) (List.mem_of_getElem? (i := 16) rfl)
theorem dL_law__1769 : decode cL_law_ 1769 = .ok (.iload 4, 2) := decG_25 (1769, (.iload 4, 2)) (List.mem_of_getElem? (i := 17) rfl)
theorem dL_law__1771 : decode cL_law_ 1771 = .ok (.iconst 2, 1) := decG_25 (1771, (.iconst 2, 1)) (List.mem_of_getElem? (i := 18) rfl)
theorem dL_law__1772 : decode cL_law_ 1772 = .ok (.iadd, 1) := decG_25 (1772, (.iadd, 1)) (List.mem_of_getElem? (i := 19) rfl)
theorem dL_law__1773 : decode cL_law_ 1773 = .ok (.iaload, 1) := decG_25 (1773, (.iaload, 1)) (List.mem_of_getElem? (i := 20) rfl)
theorem dL_law__1774 : decode cL_law_ 1774 = .ok (.aload_n 0, 1) := decG_25 (1774, (.aload_n 0, 1)) (List.mem_of_getElem? (i := 21) rfl)
theorem dL_law__1775 : decode cL_law_ 1775 = .ok (.iload 4, 2) := decG_25 (1775, (.iload 4, 2)) (List.mem_of_getElem? (i := 22) rfl)
theorem dL_law__1777 : decode cL_law_ 1777 = .ok (.iconst 3, 1) := decG_25 (1777, (.iconst 3, 1)) (List.mem_of_getElem? (i := 23) rfl)
theorem dL_law__1778 : decode cL_law_ 1778 = .ok (.iadd, 1) := decG_25 (1778, (.iadd, 1)) (List.mem_of_getElem? (i := 24) rfl)
theorem dL_law__1779 : decode cL_law_ 1779 = .ok (.iaload, 1) := decG_25 (1779, (.iaload, 1)) (List.mem_of_getElem? (i := 25) rfl)
theorem dL_law__1780 : decode cL_law_ 1780 = .ok (.invokevirtual 225, 3) := decG_25 (1780, (.invokevirtual 225, 3)) (List.mem_of_getElem? (i := 26) rfl)
theorem dL_law__1783 : decode cL_law_ 1783 = .ok (.istore 6, 2) := decG_25 (1783, (.istore 6, 2)) (List.mem_of_getElem? (i := 27) rfl)
theorem dL_law__1785 : decode cL_law_ 1785 = .ok (.aload_n 2, 1) := decG_25 (1785, (.aload_n 2, 1)) (List.mem_of_getElem? (i := 28) rfl)
theorem dL_law__1786 : decode cL_law_ 1786 = .ok (.invokevirtual 127, 3) := decG_25 (1786, (.invokevirtual 127, 3)) (List.mem_of_getElem? (i := 29) rfl)
theorem dL_law__1789 : decode cL_law_ 1789 = .ok (.iload 5, 2) := decG_25 (1789, (.iload 5, 2)) (List.mem_of_getElem? (i := 30) rfl)
theorem dL_law__1791 : decode cL_law_ 1791 = .ok (.if_icmp .eq 5, 3) := decG_25 (1791, (.if_icmp .eq 5, 3)) (List.mem_of_getElem? (i := 31) rfl)
theorem dL_law__1794 : decode cL_law_ 1794 = .ok (.iconst 0, 1) := decG_25 (1794, (.iconst 0, 1)) (List.mem_of_getElem? (i := 32) rfl)
theorem dL_law__1795 : decode cL_law_ 1795 = .ok (.ireturn, 1) := decG_25 (1795, (.ireturn, 1)) (List.mem_of_getElem? (i := 33) rfl)
theorem dL_law__1796 : decode cL_law_ 1796 = .ok (.iload 5, 2) := decG_25 (1796, (.iload 5, 2)) (List.mem_of_getElem? (i := 34) rfl)
theorem dL_law__1798 : decode cL_law_ 1798 = .ok (.ifCond .ne 15, 3) := decG_25 (1798, (.ifCond .ne 15, 3)) (List.mem_of_getElem? (i := 35) rfl)
theorem dL_law__1801 : decode cL_law_ 1801 = .ok (.aload_n 3, 1) := decG_25 (1801, (.aload_n 3, 1)) (List.mem_of_getElem? (i := 36) rfl)
theorem dL_law__1802 : decode cL_law_ 1802 = .ok (.iconst 0, 1) := decG_25 (1802, (.iconst 0, 1)) (List.mem_of_getElem? (i := 37) rfl)
theorem dL_law__1803 : decode cL_law_ 1803 = .ok (.laload, 1) := decG_25 (1803, (.laload, 1)) (List.mem_of_getElem? (i := 38) rfl)
theorem dL_law__1804 : decode cL_law_ 1804 = .ok (.iload 6, 2) := decG_25 (1804, (.iload 6, 2)) (List.mem_of_getElem? (i := 39) rfl)
set_option maxRecDepth 100000 in
theorem decG_26 : ∀ q ∈ ([(1806, (.i2l, 1)), (1807, (.lcmp, 1)), (1808, (.ifCond .eq 5, 3)), (1811, (.iconst 0, 1)), (1812, (.ireturn, 1)), (1813, (.goto 578, 3)), (1816, (.aload_n 1, 1)), (1817, (.aload_n 0, 1)), (1818, (.iload 4, 2)), (1820, (.iconst 1, 1)), (1821, (.iadd, 1)), (1822, (.iaload, 1)), (1823, (.aload_n 0, 1)), (1824, (.iload 4, 2)), (1826, (.iconst 2, 1)), (1827, (.iadd, 1)), (1828, (.iaload, 1)), (1829, (.ifCond .eq 7, 3)), (1832, (.iconst 1, 1)), (1833, (.goto 4, 3)), (1836, (.iconst 0, 1)), (1837, (.aload_n 3, 1)), (1838, (.invokestatic 226, 3)), (1841, (.istore 5, 2)), (1843, (.aload_n 2, 1)), (1844, (.aload_n 0, 1)), (1845, (.iload 4, 2)), (1847, (.iconst 1, 1)), (1848, (.iadd, 1)), (1849, (.iaload, 1)), (1850, (.aload_n 0, 1)), (1851, (.iload 4, 2)), (1853, (.iconst 2, 1)), (1854, (.iadd, 1)), (1855, (.iaload, 1)), (1856, (.ifCond .eq 7, 3)), (1859, (.iconst 1, 1)), (1860, (.goto 4, 3)), (1863, (.iconst 0, 1)), (1864, (.invokevirtual 228, 3))] : List (Nat × (Instr × Nat))), decode cL_law_ q.1 = .ok q.2 := by decide +kernel
theorem dL_law__1806 : decode cL_law_ 1806 = .ok (.i2l, 1) := decG_26 (1806, (.i2l, 1)) (List.mem_of_getElem? (i := 0) rfl)
theorem dL_law__1807 : decode cL_law_ 1807 = .ok (.lcmp, 1) := decG_26 (1807, (.lcmp, 1)) (List.mem_of_getElem? (i := 1) rfl)
theorem dL_law__1808 : decode cL_law_ 1808 = .ok (.ifCond .eq 5, 3) := decG_26 (1808, (.ifCond .eq 5, 3)) (List.mem_of_getElem? (i := 2) rfl)
theorem dL_law__1811 : decode cL_law_ 1811 = .ok (.iconst 0, 1) := decG_26 (1811, (.iconst 0, 1)) (List.mem_of_getElem? (i := 3) rfl)
theorem dL_law__1812 : decode cL_law_ 1812 = .ok (.ireturn, 1) := decG_26 (1812, (.ireturn, 1)) (List.mem_of_getElem? (i := 4) rfl)
theorem dL_law__1813 : decode cL_law_ 1813 = .ok (.goto 578, 3) := decG_26 (1813, (.goto 578, 3)) (List.mem_of_getElem? (i := 5) rfl)
theorem dL_law__1816 : decode cL_law_ 1816 = .ok (.aload_n 1, 1) := decG_26 (1816, (.aload_n 1, 1)) (List.mem_of_getElem? (i := 6) rfl)
theorem dL_law__1817 : decode cL_law_ 1817 = .ok (.aload_n 0, 1) := decG_26 (1817, (.aload_n 0, 1)) (List.mem_of_getElem? (i := 7) rfl)
theorem dL_law__1818 : decode cL_law_ 1818 = .ok (.iload 4, 2) := decG_26 (1818, (.iload 4, 2)) (List.mem_of_getElem? (i := 8) rfl)
theorem dL_law__1820 : decode cL_law_ 1820 = .ok (.iconst 1, 1) := decG_26 (1820, (.iconst 1, 1)) (List.mem_of_getElem? (i := 9) rfl)
theorem dL_law__1821 : decode cL_law_ 1821 = .ok (.iadd, 1) := decG_26 (1821, (.iadd, 1)) (List.mem_of_getElem? (i := 10) rfl)
theorem dL_law__1822 : decode cL_law_ 1822 = .ok (.iaload, 1) := decG_26 (1822, (.iaload, 1)) (List.mem_of_getElem? (i := 11) rfl)
theorem dL_law__1823 : decode cL_law_ 1823 = .ok (.aload_n 0, 1) := decG_26 (1823, (.aload_n 0, 1)) (List.mem_of_getElem? (i := 12) rfl)
theorem dL_law__1824 : decode cL_law_ 1824 = .ok (.iload 4, 2) := decG_26 (1824, (.iload 4, 2)) (List.mem_of_getElem? (i := 13) rfl)
theorem dL_law__1826 : decode cL_law_ 1826 = .ok (.iconst 2, 1) := decG_26 (1826, (.iconst 2, 1)) (List.mem_of_getElem? (i := 14) rfl)
theorem dL_law__1827 : decode cL_law_ 1827 = .ok (.iadd, 1) := decG_26 (1827, (.iadd, 1)) (List.mem_of_getElem? (i := 15) rfl)
theorem dL_law__1828 : decode cL_law_ 1828 = .ok (.iaload, 1) := decG_26 (1828, (.iaload, 1)) (List.mem_of_getElem? (i := 16) rfl)
theorem dL_law__1829 : decode cL_law_ 1829 = .ok (.ifCond .eq 7, 3) := decG_26 (1829, (.ifCond .eq 7, 3)) (List.mem_of_getElem? (i := 17) rfl)
theorem dL_law__1832 : decode cL_law_ 1832 = .ok (.iconst 1, 1) := decG_26 (1832, (.iconst 1, 1)) (List.mem_of_getElem? (i := 18) rfl)
theorem dL_law__1833 : decode cL_law_ 1833 = .ok (.goto 4, 3) := decG_26 (1833, (.goto 4, 3)) (List.mem_of_getElem? (i := 19) rfl)
theorem dL_law__1836 : decode cL_law_ 1836 = .ok (.iconst 0, 1) := decG_26 (1836, (.iconst 0, 1)) (List.mem_of_getElem? (i := 20) rfl)
theorem dL_law__1837 : decode cL_law_ 1837 = .ok (.aload_n 3, 1) := decG_26 (1837, (.aload_n 3, 1)) (List.mem_of_getElem? (i := 21) rfl)
theorem dL_law__1838 : decode cL_law_ 1838 = .ok (.invokestatic 226, 3) := decG_26 (1838, (.invokestatic 226, 3)) (List.mem_of_getElem? (i := 22) rfl)
theorem dL_law__1841 : decode cL_law_ 1841 = .ok (.istore 5, 2) := decG_26 (1841, (.istore 5, 2)) (List.mem_of_getElem? (i := 23) rfl)
theorem dL_law__1843 : decode cL_law_ 1843 = .ok (.aload_n 2, 1) := decG_26 (1843, (.aload_n 2, 1)) (List.mem_of_getElem? (i := 24) rfl)
theorem dL_law__1844 : decode cL_law_ 1844 = .ok (.aload_n 0, 1) := decG_26 (1844, (.aload_n 0, 1)) (List.mem_of_getElem? (i := 25) rfl)
theorem dL_law__1845 : decode cL_law_ 1845 = .ok (.iload 4, 2) := decG_26 (1845, (.iload 4, 2)) (List.mem_of_getElem? (i := 26) rfl)
theorem dL_law__1847 : decode cL_law_ 1847 = .ok (.iconst 1, 1) := decG_26 (1847, (.iconst 1, 1)) (List.mem_of_getElem? (i := 27) rfl)
theorem dL_law__1848 : decode cL_law_ 1848 = .ok (.iadd, 1) := decG_26 (1848, (.iadd, 1)) (List.mem_of_getElem? (i := 28) rfl)
theorem dL_law__1849 : decode cL_law_ 1849 = .ok (.iaload, 1) := decG_26 (1849, (.iaload, 1)) (List.mem_of_getElem? (i := 29) rfl)
theorem dL_law__1850 : decode cL_law_ 1850 = .ok (.aload_n 0, 1) := decG_26 (1850, (.aload_n 0, 1)) (List.mem_of_getElem? (i := 30) rfl)
theorem dL_law__1851 : decode cL_law_ 1851 = .ok (.iload 4, 2) := decG_26 (1851, (.iload 4, 2)) (List.mem_of_getElem? (i := 31) rfl)
theorem dL_law__1853 : decode cL_law_ 1853 = .ok (.iconst 2, 1) := decG_26 (1853, (.iconst 2, 1)) (List.mem_of_getElem? (i := 32) rfl)
theorem dL_law__1854 : decode cL_law_ 1854 = .ok (.iadd, 1) := decG_26 (1854, (.iadd, 1)) (List.mem_of_getElem? (i := 33) rfl)
theorem dL_law__1855 : decode cL_law_ 1855 = .ok (.iaload, 1) := decG_26 (1855, (.iaload, 1)) (List.mem_of_getElem? (i := 34) rfl)
theorem dL_law__1856 : decode cL_law_ 1856 = .ok (.ifCond .eq 7, 3) := decG_26 (1856, (.ifCond .eq 7, 3)) (List.mem_of_getElem? (i := 35) rfl)
theorem dL_law__1859 : decode cL_law_ 1859 = .ok (.iconst 1, 1) := decG_26 (1859, (.iconst 1, 1)) (List.mem_of_getElem? (i := 36) rfl)
theorem dL_law__1860 : decode cL_law_ 1860 = .ok (.goto 4, 3) := decG_26 (1860, (.goto 4, 3)) (List.mem_of_getElem? (i := 37) rfl)
theorem dL_law__1863 : decode cL_law_ 1863 = .ok (.iconst 0, 1) := decG_26 (1863, (.iconst 0, 1)) (List.mem_of_getElem? (i := 38) rfl)
theorem dL_law__1864 : decode cL_law_ 1864 = .ok (.invokevirtual 228, 3) := decG_26 (1864, (.invokevirtual 228, 3)) (List.mem_of_getElem? (i := 39) rfl)
set_option maxRecDepth 100000 in
theorem decG_27 : ∀ q ∈ ([(1867, (.istore 6, 2)), (1869, (.aload_n 2, 1)), (1870, (.invokevirtual 127, 3)), (1873, (.iload 5, 2)), (1875, (.if_icmp .eq 5, 3)), (1878, (.iconst 0, 1)), (1879, (.ireturn, 1)), (1880, (.iload 5, 2)), (1882, (.ifCond .ne 15, 3)), (1885, (.aload_n 3, 1)), (1886, (.iconst 0, 1)), (1887, (.laload, 1)), (1888, (.iload 6, 2)), (1890, (.i2l, 1)), (1891, (.lcmp, 1)), (1892, (.ifCond .eq 5, 3)), (1895, (.iconst 0, 1)), (1896, (.ireturn, 1)), (1897, (.goto 494, 3)), (1900, (.aload_n 1, 1)), (1901, (.aload_n 0, 1)), (1902, (.iload 4, 2)), (1904, (.iconst 1, 1)), (1905, (.iadd, 1)), (1906, (.iaload, 1)), (1907, (.aload_n 3, 1)), (1908, (.invokestatic 229, 3)), (1911, (.istore 5, 2)), (1913, (.aload_n 2, 1)), (1914, (.aload_n 0, 1)), (1915, (.iload 4, 2)), (1917, (.iconst 1, 1)), (1918, (.iadd, 1)), (1919, (.iaload, 1)), (1920, (.invokevirtual 231, 3)), (1923, (.istore 6, 2)), (1925, (.aload_n 2, 1)), (1926, (.invokevirtual 127, 3)), (1929, (.iload 5, 2)), (1931, (.if_icmp .eq 5, 3))] : List (Nat × (Instr × Nat))), decode cL_law_ q.1 = .ok q.2 := by decide +kernel
theorem dL_law__1867 : decode cL_law_ 1867 = .ok (.istore 6, 2) := decG_27 (1867, (.istore 6, 2)) (List.mem_of_getElem? (i := 0) rfl)
theorem dL_law__1869 : decode cL_law_ 1869 = .ok (.aload_n 2, 1) := decG_27 (1869, (.aload_n 2, 1)) (List.mem_of_getElem? (i := 1) rfl)
theorem dL_law__1870 : decode cL_law_ 1870 = .ok (.invokevirtual 127, 3) := decG_27 (1870, (.invokevirtual 127, 3)) (List.mem_of_getElem? (i := 2) rfl)
theorem dL_law__1873 : decode cL_law_ 1873 = .ok (.iload 5, 2) := decG_27 (1873, (.iload 5, 2)) (List.mem_of_getElem? (i := 3) rfl)
theorem dL_law__1875 : decode cL_law_ 1875 = .ok (.if_icmp .eq 5, 3) := decG_27 (1875, (.if_icmp .eq 5, 3)) (List.mem_of_getElem? (i := 4) rfl)
theorem dL_law__1878 : decode cL_law_ 1878 = .ok (.iconst 0, 1) := decG_27 (1878, (.iconst 0, 1)) (List.mem_of_getElem? (i := 5) rfl)
theorem dL_law__1879 : decode cL_law_ 1879 = .ok (.ireturn, 1) := decG_27 (1879, (.ireturn, 1)) (List.mem_of_getElem? (i := 6) rfl)
theorem dL_law__1880 : decode cL_law_ 1880 = .ok (.iload 5, 2) := decG_27 (1880, (.iload 5, 2)) (List.mem_of_getElem? (i := 7) rfl)
theorem dL_law__1882 : decode cL_law_ 1882 = .ok (.ifCond .ne 15, 3) := decG_27 (1882, (.ifCond .ne 15, 3)) (List.mem_of_getElem? (i := 8) rfl)
theorem dL_law__1885 : decode cL_law_ 1885 = .ok (.aload_n 3, 1) := decG_27 (1885, (.aload_n 3, 1)) (List.mem_of_getElem? (i := 9) rfl)
theorem dL_law__1886 : decode cL_law_ 1886 = .ok (.iconst 0, 1) := decG_27 (1886, (.iconst 0, 1)) (List.mem_of_getElem? (i := 10) rfl)
theorem dL_law__1887 : decode cL_law_ 1887 = .ok (.laload, 1) := decG_27 (1887, (.laload, 1)) (List.mem_of_getElem? (i := 11) rfl)
theorem dL_law__1888 : decode cL_law_ 1888 = .ok (.iload 6, 2) := decG_27 (1888, (.iload 6, 2)) (List.mem_of_getElem? (i := 12) rfl)
theorem dL_law__1890 : decode cL_law_ 1890 = .ok (.i2l, 1) := decG_27 (1890, (.i2l, 1)) (List.mem_of_getElem? (i := 13) rfl)
theorem dL_law__1891 : decode cL_law_ 1891 = .ok (.lcmp, 1) := decG_27 (1891, (.lcmp, 1)) (List.mem_of_getElem? (i := 14) rfl)
theorem dL_law__1892 : decode cL_law_ 1892 = .ok (.ifCond .eq 5, 3) := decG_27 (1892, (.ifCond .eq 5, 3)) (List.mem_of_getElem? (i := 15) rfl)
theorem dL_law__1895 : decode cL_law_ 1895 = .ok (.iconst 0, 1) := decG_27 (1895, (.iconst 0, 1)) (List.mem_of_getElem? (i := 16) rfl)
theorem dL_law__1896 : decode cL_law_ 1896 = .ok (.ireturn, 1) := decG_27 (1896, (.ireturn, 1)) (List.mem_of_getElem? (i := 17) rfl)
theorem dL_law__1897 : decode cL_law_ 1897 = .ok (.goto 494, 3) := decG_27 (1897, (.goto 494, 3)) (List.mem_of_getElem? (i := 18) rfl)
theorem dL_law__1900 : decode cL_law_ 1900 = .ok (.aload_n 1, 1) := decG_27 (1900, (.aload_n 1, 1)) (List.mem_of_getElem? (i := 19) rfl)
theorem dL_law__1901 : decode cL_law_ 1901 = .ok (.aload_n 0, 1) := decG_27 (1901, (.aload_n 0, 1)) (List.mem_of_getElem? (i := 20) rfl)
theorem dL_law__1902 : decode cL_law_ 1902 = .ok (.iload 4, 2) := decG_27 (1902, (.iload 4, 2)) (List.mem_of_getElem? (i := 21) rfl)
theorem dL_law__1904 : decode cL_law_ 1904 = .ok (.iconst 1, 1) := decG_27 (1904, (.iconst 1, 1)) (List.mem_of_getElem? (i := 22) rfl)
theorem dL_law__1905 : decode cL_law_ 1905 = .ok (.iadd, 1) := decG_27 (1905, (.iadd, 1)) (List.mem_of_getElem? (i := 23) rfl)
theorem dL_law__1906 : decode cL_law_ 1906 = .ok (.iaload, 1) := decG_27 (1906, (.iaload, 1)) (List.mem_of_getElem? (i := 24) rfl)
theorem dL_law__1907 : decode cL_law_ 1907 = .ok (.aload_n 3, 1) := decG_27 (1907, (.aload_n 3, 1)) (List.mem_of_getElem? (i := 25) rfl)
theorem dL_law__1908 : decode cL_law_ 1908 = .ok (.invokestatic 229, 3) := decG_27 (1908, (.invokestatic 229, 3)) (List.mem_of_getElem? (i := 26) rfl)
theorem dL_law__1911 : decode cL_law_ 1911 = .ok (.istore 5, 2) := decG_27 (1911, (.istore 5, 2)) (List.mem_of_getElem? (i := 27) rfl)
theorem dL_law__1913 : decode cL_law_ 1913 = .ok (.aload_n 2, 1) := decG_27 (1913, (.aload_n 2, 1)) (List.mem_of_getElem? (i := 28) rfl)
theorem dL_law__1914 : decode cL_law_ 1914 = .ok (.aload_n 0, 1) := decG_27 (1914, (.aload_n 0, 1)) (List.mem_of_getElem? (i := 29) rfl)
theorem dL_law__1915 : decode cL_law_ 1915 = .ok (.iload 4, 2) := decG_27 (1915, (.iload 4, 2)) (List.mem_of_getElem? (i := 30) rfl)
theorem dL_law__1917 : decode cL_law_ 1917 = .ok (.iconst 1, 1) := decG_27 (1917, (.iconst 1, 1)) (List.mem_of_getElem? (i := 31) rfl)
theorem dL_law__1918 : decode cL_law_ 1918 = .ok (.iadd, 1) := decG_27 (1918, (.iadd, 1)) (List.mem_of_getElem? (i := 32) rfl)
theorem dL_law__1919 : decode cL_law_ 1919 = .ok (.iaload, 1) := decG_27 (1919, (.iaload, 1)) (List.mem_of_getElem? (i := 33) rfl)
theorem dL_law__1920 : decode cL_law_ 1920 = .ok (.invokevirtual 231, 3) := decG_27 (1920, (.invokevirtual 231, 3)) (List.mem_of_getElem? (i := 34) rfl)
theorem dL_law__1923 : decode cL_law_ 1923 = .ok (.istore 6, 2) := decG_27 (1923, (.istore 6, 2)) (List.mem_of_getElem? (i := 35) rfl)
theorem dL_law__1925 : decode cL_law_ 1925 = .ok (.aload_n 2, 1) := decG_27 (1925, (.aload_n 2, 1)) (List.mem_of_getElem? (i := 36) rfl)
theorem dL_law__1926 : decode cL_law_ 1926 = .ok (.invokevirtual 127, 3) := decG_27 (1926, (.invokevirtual 127, 3)) (List.mem_of_getElem? (i := 37) rfl)
theorem dL_law__1929 : decode cL_law_ 1929 = .ok (.iload 5, 2) := decG_27 (1929, (.iload 5, 2)) (List.mem_of_getElem? (i := 38) rfl)
theorem dL_law__1931 : decode cL_law_ 1931 = .ok (.if_icmp .eq 5, 3) := decG_27 (1931, (.if_icmp .eq 5, 3)) (List.mem_of_getElem? (i := 39) rfl)
set_option maxRecDepth 100000 in
theorem decG_28 : ∀ q ∈ ([(1934, (.iconst 0, 1)), (1935, (.ireturn, 1)), (1936, (.iload 5, 2)), (1938, (.ifCond .ne 15, 3)), (1941, (.aload_n 3, 1)), (1942, (.iconst 0, 1)), (1943, (.laload, 1)), (1944, (.iload 6, 2)), (1946, (.i2l, 1)), (1947, (.lcmp, 1)), (1948, (.ifCond .eq 5, 3)), (1951, (.iconst 0, 1)), (1952, (.ireturn, 1)), (1953, (.goto 438, 3)), (1956, (.aload_n 1, 1)), (1957, (.aload_n 0, 1)), (1958, (.iload 4, 2)), (1960, (.iconst 1, 1)), (1961, (.iadd, 1)), (1962, (.iaload, 1)), (1963, (.aload_n 3, 1)), (1964, (.invokestatic 232, 3)), (1967, (.istore 5, 2)), (1969, (.aload_n 2, 1)), (1970, (.aload_n 0, 1)), (1971, (.iload 4, 2)), (1973, (.iconst 1, 1)), (1974, (.iadd, 1)), (1975, (.iaload, 1)), (1976, (.invokevirtual 234, 3)), (1979, (.istore 6, 2)), (1981, (.aload_n 2, 1)), (1982, (.invokevirtual 127, 3)), (1985, (.iload 5, 2)), (1987, (.if_icmp .eq 5, 3)), (1990, (.iconst 0, 1)), (1991, (.ireturn, 1)), (1992, (.iload 5, 2)), (1994, (.ifCond .ne 15, 3)), (1997, (.aload_n 3, 1))] : List (Nat × (Instr × Nat))), decode cL_law_ q.1 = .ok q.2 := by decide +kernel
theorem dL_law__1934 : decode cL_law_ 1934 = .ok (.iconst 0, 1) := decG_28 (1934, (.iconst 0, 1)) (List.mem_of_getElem? (i := 0) rfl)
theorem dL_law__1935 : decode cL_law_ 1935 = .ok (.ireturn, 1) := decG_28 (1935, (.ireturn, 1)) (List.mem_of_getElem? (i := 1) rfl)
theorem dL_law__1936 : decode cL_law_ 1936 = .ok (.iload 5, 2) := decG_28 (1936, (.iload 5, 2)) (List.mem_of_getElem? (i := 2) rfl)
theorem dL_law__1938 : decode cL_law_ 1938 = .ok (.ifCond .ne 15, 3) := decG_28 (1938, (.ifCond .ne 15, 3)) (List.mem_of_getElem? (i := 3) rfl)
theorem dL_law__1941 : decode cL_law_ 1941 = .ok (.aload_n 3, 1) := decG_28 (1941, (.aload_n 3, 1)) (List.mem_of_getElem? (i := 4) rfl)
theorem dL_law__1942 : decode cL_law_ 1942 = .ok (.iconst 0, 1) := decG_28 (1942, (.iconst 0, 1)) (List.mem_of_getElem? (i := 5) rfl)
theorem dL_law__1943 : decode cL_law_ 1943 = .ok (.laload, 1) := decG_28 (1943, (.laload, 1)) (List.mem_of_getElem? (i := 6) rfl)
theorem dL_law__1944 : decode cL_law_ 1944 = .ok (.iload 6, 2) := decG_28 (1944, (.iload 6, 2)) (List.mem_of_getElem? (i := 7) rfl)
theorem dL_law__1946 : decode cL_law_ 1946 = .ok (.i2l, 1) := decG_28 (1946, (.i2l, 1)) (List.mem_of_getElem? (i := 8) rfl)
theorem dL_law__1947 : decode cL_law_ 1947 = .ok (.lcmp, 1) := decG_28 (1947, (.lcmp, 1)) (List.mem_of_getElem? (i := 9) rfl)
theorem dL_law__1948 : decode cL_law_ 1948 = .ok (.ifCond .eq 5, 3) := decG_28 (1948, (.ifCond .eq 5, 3)) (List.mem_of_getElem? (i := 10) rfl)
theorem dL_law__1951 : decode cL_law_ 1951 = .ok (.iconst 0, 1) := decG_28 (1951, (.iconst 0, 1)) (List.mem_of_getElem? (i := 11) rfl)
theorem dL_law__1952 : decode cL_law_ 1952 = .ok (.ireturn, 1) := decG_28 (1952, (.ireturn, 1)) (List.mem_of_getElem? (i := 12) rfl)
theorem dL_law__1953 : decode cL_law_ 1953 = .ok (.goto 438, 3) := decG_28 (1953, (.goto 438, 3)) (List.mem_of_getElem? (i := 13) rfl)
theorem dL_law__1956 : decode cL_law_ 1956 = .ok (.aload_n 1, 1) := decG_28 (1956, (.aload_n 1, 1)) (List.mem_of_getElem? (i := 14) rfl)
theorem dL_law__1957 : decode cL_law_ 1957 = .ok (.aload_n 0, 1) := decG_28 (1957, (.aload_n 0, 1)) (List.mem_of_getElem? (i := 15) rfl)
theorem dL_law__1958 : decode cL_law_ 1958 = .ok (.iload 4, 2) := decG_28 (1958, (.iload 4, 2)) (List.mem_of_getElem? (i := 16) rfl)
theorem dL_law__1960 : decode cL_law_ 1960 = .ok (.iconst 1, 1) := decG_28 (1960, (.iconst 1, 1)) (List.mem_of_getElem? (i := 17) rfl)
theorem dL_law__1961 : decode cL_law_ 1961 = .ok (.iadd, 1) := decG_28 (1961, (.iadd, 1)) (List.mem_of_getElem? (i := 18) rfl)
theorem dL_law__1962 : decode cL_law_ 1962 = .ok (.iaload, 1) := decG_28 (1962, (.iaload, 1)) (List.mem_of_getElem? (i := 19) rfl)
theorem dL_law__1963 : decode cL_law_ 1963 = .ok (.aload_n 3, 1) := decG_28 (1963, (.aload_n 3, 1)) (List.mem_of_getElem? (i := 20) rfl)
theorem dL_law__1964 : decode cL_law_ 1964 = .ok (.invokestatic 232, 3) := decG_28 (1964, (.invokestatic 232, 3)) (List.mem_of_getElem? (i := 21) rfl)
theorem dL_law__1967 : decode cL_law_ 1967 = .ok (.istore 5, 2) := decG_28 (1967, (.istore 5, 2)) (List.mem_of_getElem? (i := 22) rfl)
theorem dL_law__1969 : decode cL_law_ 1969 = .ok (.aload_n 2, 1) := decG_28 (1969, (.aload_n 2, 1)) (List.mem_of_getElem? (i := 23) rfl)
theorem dL_law__1970 : decode cL_law_ 1970 = .ok (.aload_n 0, 1) := decG_28 (1970, (.aload_n 0, 1)) (List.mem_of_getElem? (i := 24) rfl)
theorem dL_law__1971 : decode cL_law_ 1971 = .ok (.iload 4, 2) := decG_28 (1971, (.iload 4, 2)) (List.mem_of_getElem? (i := 25) rfl)
theorem dL_law__1973 : decode cL_law_ 1973 = .ok (.iconst 1, 1) := decG_28 (1973, (.iconst 1, 1)) (List.mem_of_getElem? (i := 26) rfl)
theorem dL_law__1974 : decode cL_law_ 1974 = .ok (.iadd, 1) := decG_28 (1974, (.iadd, 1)) (List.mem_of_getElem? (i := 27) rfl)
theorem dL_law__1975 : decode cL_law_ 1975 = .ok (.iaload, 1) := decG_28 (1975, (.iaload, 1)) (List.mem_of_getElem? (i := 28) rfl)
theorem dL_law__1976 : decode cL_law_ 1976 = .ok (.invokevirtual 234, 3) := decG_28 (1976, (.invokevirtual 234, 3)) (List.mem_of_getElem? (i := 29) rfl)
theorem dL_law__1979 : decode cL_law_ 1979 = .ok (.istore 6, 2) := decG_28 (1979, (.istore 6, 2)) (List.mem_of_getElem? (i := 30) rfl)
theorem dL_law__1981 : decode cL_law_ 1981 = .ok (.aload_n 2, 1) := decG_28 (1981, (.aload_n 2, 1)) (List.mem_of_getElem? (i := 31) rfl)
theorem dL_law__1982 : decode cL_law_ 1982 = .ok (.invokevirtual 127, 3) := decG_28 (1982, (.invokevirtual 127, 3)) (List.mem_of_getElem? (i := 32) rfl)
theorem dL_law__1985 : decode cL_law_ 1985 = .ok (.iload 5, 2) := decG_28 (1985, (.iload 5, 2)) (List.mem_of_getElem? (i := 33) rfl)
theorem dL_law__1987 : decode cL_law_ 1987 = .ok (.if_icmp .eq 5, 3) := decG_28 (1987, (.if_icmp .eq 5, 3)) (List.mem_of_getElem? (i := 34) rfl)
theorem dL_law__1990 : decode cL_law_ 1990 = .ok (.iconst 0, 1) := decG_28 (1990, (.iconst 0, 1)) (List.mem_of_getElem? (i := 35) rfl)
theorem dL_law__1991 : decode cL_law_ 1991 = .ok (.ireturn, 1) := decG_28 (1991, (.ireturn, 1)) (List.mem_of_getElem? (i := 36) rfl)
theorem dL_law__1992 : decode cL_law_ 1992 = .ok (.iload 5, 2) := decG_28 (1992, (.iload 5, 2)) (List.mem_of_getElem? (i := 37) rfl)
theorem dL_law__1994 : decode cL_law_ 1994 = .ok (.ifCond .ne 15, 3) := decG_28 (1994, (.ifCond .ne 15, 3)) (List.mem_of_getElem? (i := 38) rfl)
theorem dL_law__1997 : decode cL_law_ 1997 = .ok (.aload_n 3, 1) := decG_28 (1997, (.aload_n 3, 1)) (List.mem_of_getElem? (i := 39) rfl)
set_option maxRecDepth 100000 in
theorem decG_29 : ∀ q ∈ ([(1998, (.iconst 0, 1)), (1999, (.laload, 1)), (2000, (.iload 6, 2)), (2002, (.i2l, 1)), (2003, (.lcmp, 1)), (2004, (.ifCond .eq 5, 3)), (2007, (.iconst 0, 1)), (2008, (.ireturn, 1)), (2009, (.goto 382, 3)), (2012, (.aload_n 1, 1)), (2013, (.aload_n 0, 1)), (2014, (.iload 4, 2)), (2016, (.iconst 1, 1)), (2017, (.iadd, 1)), (2018, (.iaload, 1)), (2019, (.aload_n 3, 1)), (2020, (.invokestatic 235, 3)), (2023, (.istore 5, 2)), (2025, (.aload_n 2, 1)), (2026, (.aload_n 0, 1)), (2027, (.iload 4, 2)), (2029, (.iconst 1, 1)), (2030, (.iadd, 1)), (2031, (.iaload, 1)), (2032, (.invokevirtual 237, 3)), (2035, (.istore 6, 2)), (2037, (.aload_n 2, 1)), (2038, (.invokevirtual 127, 3)), (2041, (.iload 5, 2)), (2043, (.if_icmp .eq 5, 3)), (2046, (.iconst 0, 1)), (2047, (.ireturn, 1)), (2048, (.iload 5, 2)), (2050, (.ifCond .ne 15, 3)), (2053, (.aload_n 3, 1)), (2054, (.iconst 0, 1)), (2055, (.laload, 1)), (2056, (.iload 6, 2)), (2058, (.i2l, 1)), (2059, (.lcmp, 1))] : List (Nat × (Instr × Nat))), decode cL_law_ q.1 = .ok q.2 := by decide +kernel
theorem dL_law__1998 : decode cL_law_ 1998 = .ok (.iconst 0, 1) := decG_29 (1998, (.iconst 0, 1)) (List.mem_of_getElem? (i := 0) rfl)
theorem dL_law__1999 : decode cL_law_ 1999 = .ok (.laload, 1) := decG_29 (1999, (.laload, 1)) (List.mem_of_getElem? (i := 1) rfl)
theorem dL_law__2000 : decode cL_law_ 2000 = .ok (.iload 6, 2) := decG_29 (2000, (.iload 6, 2)) (List.mem_of_getElem? (i := 2) rfl)
theorem dL_law__2002 : decode cL_law_ 2002 = .ok (.i2l, 1) := decG_29 (2002, (.i2l, 1)) (List.mem_of_getElem? (i := 3) rfl)
theorem dL_law__2003 : decode cL_law_ 2003 = .ok (.lcmp, 1) := decG_29 (2003, (.lcmp, 1)) (List.mem_of_getElem? (i := 4) rfl)
theorem dL_law__2004 : decode cL_law_ 2004 = .ok (.ifCond .eq 5, 3) := decG_29 (2004, (.ifCond .eq 5, 3)) (List.mem_of_getElem? (i := 5) rfl)
theorem dL_law__2007 : decode cL_law_ 2007 = .ok (.iconst 0, 1) := decG_29 (2007, (.iconst 0, 1)) (List.mem_of_getElem? (i := 6) rfl)
theorem dL_law__2008 : decode cL_law_ 2008 = .ok (.ireturn, 1) := decG_29 (2008, (.ireturn, 1)) (List.mem_of_getElem? (i := 7) rfl)
theorem dL_law__2009 : decode cL_law_ 2009 = .ok (.goto 382, 3) := decG_29 (2009, (.goto 382, 3)) (List.mem_of_getElem? (i := 8) rfl)
theorem dL_law__2012 : decode cL_law_ 2012 = .ok (.aload_n 1, 1) := decG_29 (2012, (.aload_n 1, 1)) (List.mem_of_getElem? (i := 9) rfl)
theorem dL_law__2013 : decode cL_law_ 2013 = .ok (.aload_n 0, 1) := decG_29 (2013, (.aload_n 0, 1)) (List.mem_of_getElem? (i := 10) rfl)
theorem dL_law__2014 : decode cL_law_ 2014 = .ok (.iload 4, 2) := decG_29 (2014, (.iload 4, 2)) (List.mem_of_getElem? (i := 11) rfl)
theorem dL_law__2016 : decode cL_law_ 2016 = .ok (.iconst 1, 1) := decG_29 (2016, (.iconst 1, 1)) (List.mem_of_getElem? (i := 12) rfl)
theorem dL_law__2017 : decode cL_law_ 2017 = .ok (.iadd, 1) := decG_29 (2017, (.iadd, 1)) (List.mem_of_getElem? (i := 13) rfl)
theorem dL_law__2018 : decode cL_law_ 2018 = .ok (.iaload, 1) := decG_29 (2018, (.iaload, 1)) (List.mem_of_getElem? (i := 14) rfl)
theorem dL_law__2019 : decode cL_law_ 2019 = .ok (.aload_n 3, 1) := decG_29 (2019, (.aload_n 3, 1)) (List.mem_of_getElem? (i := 15) rfl)
theorem dL_law__2020 : decode cL_law_ 2020 = .ok (.invokestatic 235, 3) := decG_29 (2020, (.invokestatic 235, 3)) (List.mem_of_getElem? (i := 16) rfl)
theorem dL_law__2023 : decode cL_law_ 2023 = .ok (.istore 5, 2) := decG_29 (2023, (.istore 5, 2)) (List.mem_of_getElem? (i := 17) rfl)
theorem dL_law__2025 : decode cL_law_ 2025 = .ok (.aload_n 2, 1) := decG_29 (2025, (.aload_n 2, 1)) (List.mem_of_getElem? (i := 18) rfl)
theorem dL_law__2026 : decode cL_law_ 2026 = .ok (.aload_n 0, 1) := decG_29 (2026, (.aload_n 0, 1)) (List.mem_of_getElem? (i := 19) rfl)
theorem dL_law__2027 : decode cL_law_ 2027 = .ok (.iload 4, 2) := decG_29 (2027, (.iload 4, 2)) (List.mem_of_getElem? (i := 20) rfl)
theorem dL_law__2029 : decode cL_law_ 2029 = .ok (.iconst 1, 1) := decG_29 (2029, (.iconst 1, 1)) (List.mem_of_getElem? (i := 21) rfl)
theorem dL_law__2030 : decode cL_law_ 2030 = .ok (.iadd, 1) := decG_29 (2030, (.iadd, 1)) (List.mem_of_getElem? (i := 22) rfl)
theorem dL_law__2031 : decode cL_law_ 2031 = .ok (.iaload, 1) := decG_29 (2031, (.iaload, 1)) (List.mem_of_getElem? (i := 23) rfl)
theorem dL_law__2032 : decode cL_law_ 2032 = .ok (.invokevirtual 237, 3) := decG_29 (2032, (.invokevirtual 237, 3)) (List.mem_of_getElem? (i := 24) rfl)
theorem dL_law__2035 : decode cL_law_ 2035 = .ok (.istore 6, 2) := decG_29 (2035, (.istore 6, 2)) (List.mem_of_getElem? (i := 25) rfl)
theorem dL_law__2037 : decode cL_law_ 2037 = .ok (.aload_n 2, 1) := decG_29 (2037, (.aload_n 2, 1)) (List.mem_of_getElem? (i := 26) rfl)
theorem dL_law__2038 : decode cL_law_ 2038 = .ok (.invokevirtual 127, 3) := decG_29 (2038, (.invokevirtual 127, 3)) (List.mem_of_getElem? (i := 27) rfl)
theorem dL_law__2041 : decode cL_law_ 2041 = .ok (.iload 5, 2) := decG_29 (2041, (.iload 5, 2)) (List.mem_of_getElem? (i := 28) rfl)
theorem dL_law__2043 : decode cL_law_ 2043 = .ok (.if_icmp .eq 5, 3) := decG_29 (2043, (.if_icmp .eq 5, 3)) (List.mem_of_getElem? (i := 29) rfl)
theorem dL_law__2046 : decode cL_law_ 2046 = .ok (.iconst 0, 1) := decG_29 (2046, (.iconst 0, 1)) (List.mem_of_getElem? (i := 30) rfl)
theorem dL_law__2047 : decode cL_law_ 2047 = .ok (.ireturn, 1) := decG_29 (2047, (.ireturn, 1)) (List.mem_of_getElem? (i := 31) rfl)
theorem dL_law__2048 : decode cL_law_ 2048 = .ok (.iload 5, 2) := decG_29 (2048, (.iload 5, 2)) (List.mem_of_getElem? (i := 32) rfl)
theorem dL_law__2050 : decode cL_law_ 2050 = .ok (.ifCond .ne 15, 3) := decG_29 (2050, (.ifCond .ne 15, 3)) (List.mem_of_getElem? (i := 33) rfl)
theorem dL_law__2053 : decode cL_law_ 2053 = .ok (.aload_n 3, 1) := decG_29 (2053, (.aload_n 3, 1)) (List.mem_of_getElem? (i := 34) rfl)
theorem dL_law__2054 : decode cL_law_ 2054 = .ok (.iconst 0, 1) := decG_29 (2054, (.iconst 0, 1)) (List.mem_of_getElem? (i := 35) rfl)
theorem dL_law__2055 : decode cL_law_ 2055 = .ok (.laload, 1) := decG_29 (2055, (.laload, 1)) (List.mem_of_getElem? (i := 36) rfl)
theorem dL_law__2056 : decode cL_law_ 2056 = .ok (.iload 6, 2) := decG_29 (2056, (.iload 6, 2)) (List.mem_of_getElem? (i := 37) rfl)
theorem dL_law__2058 : decode cL_law_ 2058 = .ok (.i2l, 1) := decG_29 (2058, (.i2l, 1)) (List.mem_of_getElem? (i := 38) rfl)
theorem dL_law__2059 : decode cL_law_ 2059 = .ok (.lcmp, 1) := decG_29 (2059, (.lcmp, 1)) (List.mem_of_getElem? (i := 39) rfl)
set_option maxRecDepth 100000 in
theorem decG_30 : ∀ q ∈ ([(2060, (.ifCond .eq 5, 3)), (2063, (.iconst 0, 1)), (2064, (.ireturn, 1)), (2065, (.goto 326, 3)), (2068, (.aload_n 1, 1)), (2069, (.aload_n 0, 1)), (2070, (.iload 4, 2)), (2072, (.iconst 1, 1)), (2073, (.iadd, 1)), (2074, (.iaload, 1)), (2075, (.aload_n 0, 1)), (2076, (.iload 4, 2)), (2078, (.iconst 2, 1)), (2079, (.iadd, 1)), (2080, (.iaload, 1)), (2081, (.ifCond .eq 7, 3)), (2084, (.iconst 1, 1)), (2085, (.goto 4, 3)), (2088, (.iconst 0, 1)), (2089, (.aload_n 3, 1)), (2090, (.invokestatic 238, 3)), (2093, (.istore 5, 2)), (2095, (.aload_n 2, 1)), (2096, (.aload_n 0, 1)), (2097, (.iload 4, 2)), (2099, (.iconst 1, 1)), (2100, (.iadd, 1)), (2101, (.iaload, 1)), (2102, (.aload_n 0, 1)), (2103, (.iload 4, 2)), (2105, (.iconst 2, 1)), (2106, (.iadd, 1)), (2107, (.iaload, 1)), (2108, (.ifCond .eq 7, 3)), (2111, (.iconst 1, 1)), (2112, (.goto 4, 3)), (2115, (.iconst 0, 1)), (2116, (.invokevirtual 240, 3)), (2119, (.istore 6, 2)), (2121, (.aload_n 2, 1))] : List (Nat × (Instr × Nat))), decode cL_law_ q.1 = .ok q.2 := by decide +kernel
theorem dL_law__2060 : decode cL_law_ 2060 = .ok (.ifCond .eq 5, 3) := decG_30 (2060, (.ifCond .eq 5, 3)) (List.mem_of_getElem? (i := 0) rfl)
theorem dL_law__2063 : decode cL_law_ 2063 = .ok (.iconst 0, 1) := decG_30 (2063, (.iconst 0, 1)) (List.mem_of_getElem? (i := 1) rfl)
theorem dL_law__2064 : decode cL_law_ 2064 = .ok (.ireturn, 1) := decG_30 (2064, (.ireturn, 1)) (List.mem_of_getElem? (i := 2) rfl)
theorem dL_law__2065 : decode cL_law_ 2065 = .ok (.goto 326, 3) := decG_30 (2065, (.goto 326, 3)) (List.mem_of_getElem? (i := 3) rfl)
theorem dL_law__2068 : decode cL_law_ 2068 = .ok (.aload_n 1, 1) := decG_30 (2068, (.aload_n 1, 1)) (List.mem_of_getElem? (i := 4) rfl)
theorem dL_law__2069 : decode cL_law_ 2069 = .ok (.aload_n 0, 1) := decG_30 (2069, (.aload_n 0, 1)) (List.mem_of_getElem? (i := 5) rfl)
theorem dL_law__2070 : decode cL_law_ 2070 = .ok (.iload 4, 2) := decG_30 (2070, (.iload 4, 2)) (List.mem_of_getElem? (i := 6) rfl)
theorem dL_law__2072 : decode cL_law_ 2072 = .ok (.iconst 1, 1) := decG_30 (2072, (.iconst 1, 1)) (List.mem_of_getElem? (i := 7) rfl)
theorem dL_law__2073 : decode cL_law_ 2073 = .ok (.iadd, 1) := decG_30 (2073, (.iadd, 1)) (List.mem_of_getElem? (i := 8) rfl)
theorem dL_law__2074 : decode cL_law_ 2074 = .ok (.iaload, 1) := decG_30 (2074, (.iaload, 1)) (List.mem_of_getElem? (i := 9) rfl)
theorem dL_law__2075 : decode cL_law_ 2075 = .ok (.aload_n 0, 1) := decG_30 (2075, (.aload_n 0, 1)) (List.mem_of_getElem? (i := 10) rfl)
theorem dL_law__2076 : decode cL_law_ 2076 = .ok (.iload 4, 2) := decG_30 (2076, (.iload 4, 2)) (List.mem_of_getElem? (i := 11) rfl)
theorem dL_law__2078 : decode cL_law_ 2078 = .ok (.iconst 2, 1) := decG_30 (2078, (.iconst 2, 1)) (List.mem_of_getElem? (i := 12) rfl)
theorem dL_law__2079 : decode cL_law_ 2079 = .ok (.iadd, 1) := decG_30 (2079, (.iadd, 1)) (List.mem_of_getElem? (i := 13) rfl)
theorem dL_law__2080 : decode cL_law_ 2080 = .ok (.iaload, 1) := decG_30 (2080, (.iaload, 1)) (List.mem_of_getElem? (i := 14) rfl)
theorem dL_law__2081 : decode cL_law_ 2081 = .ok (.ifCond .eq 7, 3) := decG_30 (2081, (.ifCond .eq 7, 3)) (List.mem_of_getElem? (i := 15) rfl)
theorem dL_law__2084 : decode cL_law_ 2084 = .ok (.iconst 1, 1) := decG_30 (2084, (.iconst 1, 1)) (List.mem_of_getElem? (i := 16) rfl)
theorem dL_law__2085 : decode cL_law_ 2085 = .ok (.goto 4, 3) := decG_30 (2085, (.goto 4, 3)) (List.mem_of_getElem? (i := 17) rfl)
theorem dL_law__2088 : decode cL_law_ 2088 = .ok (.iconst 0, 1) := decG_30 (2088, (.iconst 0, 1)) (List.mem_of_getElem? (i := 18) rfl)
theorem dL_law__2089 : decode cL_law_ 2089 = .ok (.aload_n 3, 1) := decG_30 (2089, (.aload_n 3, 1)) (List.mem_of_getElem? (i := 19) rfl)
theorem dL_law__2090 : decode cL_law_ 2090 = .ok (.invokestatic 238, 3) := decG_30 (2090, (.invokestatic 238, 3)) (List.mem_of_getElem? (i := 20) rfl)
theorem dL_law__2093 : decode cL_law_ 2093 = .ok (.istore 5, 2) := decG_30 (2093, (.istore 5, 2)) (List.mem_of_getElem? (i := 21) rfl)
theorem dL_law__2095 : decode cL_law_ 2095 = .ok (.aload_n 2, 1) := decG_30 (2095, (.aload_n 2, 1)) (List.mem_of_getElem? (i := 22) rfl)
theorem dL_law__2096 : decode cL_law_ 2096 = .ok (.aload_n 0, 1) := decG_30 (2096, (.aload_n 0, 1)) (List.mem_of_getElem? (i := 23) rfl)
theorem dL_law__2097 : decode cL_law_ 2097 = .ok (.iload 4, 2) := decG_30 (2097, (.iload 4, 2)) (List.mem_of_getElem? (i := 24) rfl)
theorem dL_law__2099 : decode cL_law_ 2099 = .ok (.iconst 1, 1) := decG_30 (2099, (.iconst 1, 1)) (List.mem_of_getElem? (i := 25) rfl)
theorem dL_law__2100 : decode cL_law_ 2100 = .ok (.iadd, 1) := decG_30 (2100, (.iadd, 1)) (List.mem_of_getElem? (i := 26) rfl)
theorem dL_law__2101 : decode cL_law_ 2101 = .ok (.iaload, 1) := decG_30 (2101, (.iaload, 1)) (List.mem_of_getElem? (i := 27) rfl)
theorem dL_law__2102 : decode cL_law_ 2102 = .ok (.aload_n 0, 1) := decG_30 (2102, (.aload_n 0, 1)) (List.mem_of_getElem? (i := 28) rfl)
theorem dL_law__2103 : decode cL_law_ 2103 = .ok (.iload 4, 2) := decG_30 (2103, (.iload 4, 2)) (List.mem_of_getElem? (i := 29) rfl)
theorem dL_law__2105 : decode cL_law_ 2105 = .ok (.iconst 2, 1) := decG_30 (2105, (.iconst 2, 1)) (List.mem_of_getElem? (i := 30) rfl)
theorem dL_law__2106 : decode cL_law_ 2106 = .ok (.iadd, 1) := decG_30 (2106, (.iadd, 1)) (List.mem_of_getElem? (i := 31) rfl)
theorem dL_law__2107 : decode cL_law_ 2107 = .ok (.iaload, 1) := decG_30 (2107, (.iaload, 1)) (List.mem_of_getElem? (i := 32) rfl)
theorem dL_law__2108 : decode cL_law_ 2108 = .ok (.ifCond .eq 7, 3) := decG_30 (2108, (.ifCond .eq 7, 3)) (List.mem_of_getElem? (i := 33) rfl)
theorem dL_law__2111 : decode cL_law_ 2111 = .ok (.iconst 1, 1) := decG_30 (2111, (.iconst 1, 1)) (List.mem_of_getElem? (i := 34) rfl)
theorem dL_law__2112 : decode cL_law_ 2112 = .ok (.goto 4, 3) := decG_30 (2112, (.goto 4, 3)) (List.mem_of_getElem? (i := 35) rfl)
theorem dL_law__2115 : decode cL_law_ 2115 = .ok (.iconst 0, 1) := decG_30 (2115, (.iconst 0, 1)) (List.mem_of_getElem? (i := 36) rfl)
theorem dL_law__2116 : decode cL_law_ 2116 = .ok (.invokevirtual 240, 3) := decG_30 (2116, (.invokevirtual 240, 3)) (List.mem_of_getElem? (i := 37) rfl)
theorem dL_law__2119 : decode cL_law_ 2119 = .ok (.istore 6, 2) := decG_30 (2119, (.istore 6, 2)) (List.mem_of_getElem? (i := 38) rfl)
theorem dL_law__2121 : decode cL_law_ 2121 = .ok (.aload_n 2, 1) := decG_30 (2121, (.aload_n 2, 1)) (List.mem_of_getElem? (i := 39) rfl)
set_option maxRecDepth 100000 in
theorem decG_31 : ∀ q ∈ ([(2122, (.invokevirtual 127, 3)), (2125, (.iload 5, 2)), (2127, (.if_icmp .eq 5, 3)), (2130, (.iconst 0, 1)), (2131, (.ireturn, 1)), (2132, (.iload 5, 2)), (2134, (.ifCond .ne 15, 3)), (2137, (.aload_n 3, 1)), (2138, (.iconst 0, 1)), (2139, (.laload, 1)), (2140, (.iload 6, 2)), (2142, (.i2l, 1)), (2143, (.lcmp, 1)), (2144, (.ifCond .eq 5, 3)), (2147, (.iconst 0, 1)), (2148, (.ireturn, 1)), (2149, (.goto 242, 3)), (2152, (.aload_n 1, 1)), (2153, (.aload_n 0, 1)), (2154, (.iload 4, 2)), (2156, (.iconst 1, 1)), (2157, (.iadd, 1)), (2158, (.iaload, 1)), (2159, (.aload_n 0, 1)), (2160, (.iload 4, 2)), (2162, (.iconst 2, 1)), (2163, (.iadd, 1)), (2164, (.iaload, 1)), (2165, (.ifCond .eq 7, 3)), (2168, (.iconst 1, 1)), (2169, (.goto 4, 3)), (2172, (.iconst 0, 1)), (2173, (.aload_n 3, 1)), (2174, (.invokestatic 241, 3)), (2177, (.istore 5, 2)), (2179, (.aload_n 2, 1)), (2180, (.aload_n 0, 1)), (2181, (.iload 4, 2)), (2183, (.iconst 1, 1)), (2184, (.iadd, 1))] : List (Nat × (Instr × Nat))), decode cL_law_ q.1 = .ok q.2 := by decide +kernel
theorem dL_law__2122 : decode cL_law_ 2122 = .ok (.invokevirtual 127, 3) := decG_31 (2122, (.invokevirtual 127, 3)) (List.mem_of_getElem? (i := 0) rfl)
theorem dL_law__2125 : decode cL_law_ 2125 = .ok (.iload 5, 2) := decG_31 (2125, (.iload 5, 2)) (List.mem_of_getElem? (i := 1) rfl)
theorem dL_law__2127 : decode cL_law_ 2127 = .ok (.if_icmp .eq 5, 3) := decG_31 (2127, (.if_icmp .eq 5, 3)) (List.mem_of_getElem? (i := 2) rfl)
theorem dL_law__2130 : decode cL_law_ 2130 = .ok (.iconst 0, 1) := decG_31 (2130, (.iconst 0, 1)) (List.mem_of_getElem? (i := 3) rfl)
theorem dL_law__2131 : decode cL_law_ 2131 = .ok (.ireturn, 1) := decG_31 (2131, (.ireturn, 1)) (List.mem_of_getElem? (i := 4) rfl)
theorem dL_law__2132 : decode cL_law_ 2132 = .ok (.iload 5, 2) := decG_31 (2132, (.iload 5, 2)) (List.mem_of_getElem? (i := 5) rfl)
theorem dL_law__2134 : decode cL_law_ 2134 = .ok (.ifCond .ne 15, 3) := decG_31 (2134, (.ifCond .ne 15, 3)) (List.mem_of_getElem? (i := 6) rfl)
theorem dL_law__2137 : decode cL_law_ 2137 = .ok (.aload_n 3, 1) := decG_31 (2137, (.aload_n 3, 1)) (List.mem_of_getElem? (i := 7) rfl)
theorem dL_law__2138 : decode cL_law_ 2138 = .ok (.iconst 0, 1) := decG_31 (2138, (.iconst 0, 1)) (List.mem_of_getElem? (i := 8) rfl)
theorem dL_law__2139 : decode cL_law_ 2139 = .ok (.laload, 1) := decG_31 (2139, (.laload, 1)) (List.mem_of_getElem? (i := 9) rfl)
theorem dL_law__2140 : decode cL_law_ 2140 = .ok (.iload 6, 2) := decG_31 (2140, (.iload 6, 2)) (List.mem_of_getElem? (i := 10) rfl)
theorem dL_law__2142 : decode cL_law_ 2142 = .ok (.i2l, 1) := decG_31 (2142, (.i2l, 1)) (List.mem_of_getElem? (i := 11) rfl)
theorem dL_law__2143 : decode cL_law_ 2143 = .ok (.lcmp, 1) := decG_31 (2143, (.lcmp, 1)) (List.mem_of_getElem? (i := 12) rfl)
theorem dL_law__2144 : decode cL_law_ 2144 = .ok (.ifCond .eq 5, 3) := decG_31 (2144, (.ifCond .eq 5, 3)) (List.mem_of_getElem? (i := 13) rfl)
theorem dL_law__2147 : decode cL_law_ 2147 = .ok (.iconst 0, 1) := decG_31 (2147, (.iconst 0, 1)) (List.mem_of_getElem? (i := 14) rfl)
theorem dL_law__2148 : decode cL_law_ 2148 = .ok (.ireturn, 1) := decG_31 (2148, (.ireturn, 1)) (List.mem_of_getElem? (i := 15) rfl)
theorem dL_law__2149 : decode cL_law_ 2149 = .ok (.goto 242, 3) := decG_31 (2149, (.goto 242, 3)) (List.mem_of_getElem? (i := 16) rfl)
theorem dL_law__2152 : decode cL_law_ 2152 = .ok (.aload_n 1, 1) := decG_31 (2152, (.aload_n 1, 1)) (List.mem_of_getElem? (i := 17) rfl)
theorem dL_law__2153 : decode cL_law_ 2153 = .ok (.aload_n 0, 1) := decG_31 (2153, (.aload_n 0, 1)) (List.mem_of_getElem? (i := 18) rfl)
theorem dL_law__2154 : decode cL_law_ 2154 = .ok (.iload 4, 2) := decG_31 (2154, (.iload 4, 2)) (List.mem_of_getElem? (i := 19) rfl)
theorem dL_law__2156 : decode cL_law_ 2156 = .ok (.iconst 1, 1) := decG_31 (2156, (.iconst 1, 1)) (List.mem_of_getElem? (i := 20) rfl)
theorem dL_law__2157 : decode cL_law_ 2157 = .ok (.iadd, 1) := decG_31 (2157, (.iadd, 1)) (List.mem_of_getElem? (i := 21) rfl)
theorem dL_law__2158 : decode cL_law_ 2158 = .ok (.iaload, 1) := decG_31 (2158, (.iaload, 1)) (List.mem_of_getElem? (i := 22) rfl)
theorem dL_law__2159 : decode cL_law_ 2159 = .ok (.aload_n 0, 1) := decG_31 (2159, (.aload_n 0, 1)) (List.mem_of_getElem? (i := 23) rfl)
theorem dL_law__2160 : decode cL_law_ 2160 = .ok (.iload 4, 2) := decG_31 (2160, (.iload 4, 2)) (List.mem_of_getElem? (i := 24) rfl)
theorem dL_law__2162 : decode cL_law_ 2162 = .ok (.iconst 2, 1) := decG_31 (2162, (.iconst 2, 1)) (List.mem_of_getElem? (i := 25) rfl)
theorem dL_law__2163 : decode cL_law_ 2163 = .ok (.iadd, 1) := decG_31 (2163, (.iadd, 1)) (List.mem_of_getElem? (i := 26) rfl)
theorem dL_law__2164 : decode cL_law_ 2164 = .ok (.iaload, 1) := decG_31 (2164, (.iaload, 1)) (List.mem_of_getElem? (i := 27) rfl)
theorem dL_law__2165 : decode cL_law_ 2165 = .ok (.ifCond .eq 7, 3) := decG_31 (2165, (.ifCond .eq 7, 3)) (List.mem_of_getElem? (i := 28) rfl)
theorem dL_law__2168 : decode cL_law_ 2168 = .ok (.iconst 1, 1) := decG_31 (2168, (.iconst 1, 1)) (List.mem_of_getElem? (i := 29) rfl)
theorem dL_law__2169 : decode cL_law_ 2169 = .ok (.goto 4, 3) := decG_31 (2169, (.goto 4, 3)) (List.mem_of_getElem? (i := 30) rfl)
theorem dL_law__2172 : decode cL_law_ 2172 = .ok (.iconst 0, 1) := decG_31 (2172, (.iconst 0, 1)) (List.mem_of_getElem? (i := 31) rfl)
theorem dL_law__2173 : decode cL_law_ 2173 = .ok (.aload_n 3, 1) := decG_31 (2173, (.aload_n 3, 1)) (List.mem_of_getElem? (i := 32) rfl)
theorem dL_law__2174 : decode cL_law_ 2174 = .ok (.invokestatic 241, 3) := decG_31 (2174, (.invokestatic 241, 3)) (List.mem_of_getElem? (i := 33) rfl)
theorem dL_law__2177 : decode cL_law_ 2177 = .ok (.istore 5, 2) := decG_31 (2177, (.istore 5, 2)) (List.mem_of_getElem? (i := 34) rfl)
theorem dL_law__2179 : decode cL_law_ 2179 = .ok (.aload_n 2, 1) := decG_31 (2179, (.aload_n 2, 1)) (List.mem_of_getElem? (i := 35) rfl)
theorem dL_law__2180 : decode cL_law_ 2180 = .ok (.aload_n 0, 1) := decG_31 (2180, (.aload_n 0, 1)) (List.mem_of_getElem? (i := 36) rfl)
theorem dL_law__2181 : decode cL_law_ 2181 = .ok (.iload 4, 2) := decG_31 (2181, (.iload 4, 2)) (List.mem_of_getElem? (i := 37) rfl)
theorem dL_law__2183 : decode cL_law_ 2183 = .ok (.iconst 1, 1) := decG_31 (2183, (.iconst 1, 1)) (List.mem_of_getElem? (i := 38) rfl)
theorem dL_law__2184 : decode cL_law_ 2184 = .ok (.iadd, 1) := decG_31 (2184, (.iadd, 1)) (List.mem_of_getElem? (i := 39) rfl)
set_option maxRecDepth 100000 in
theorem decG_32 : ∀ q ∈ ([(2185, (.iaload, 1)), (2186, (.aload_n 0, 1)), (2187, (.iload 4, 2)), (2189, (.iconst 2, 1)), (2190, (.iadd, 1)), (2191, (.iaload, 1)), (2192, (.ifCond .eq 7, 3)), (2195, (.iconst 1, 1)), (2196, (.goto 4, 3)), (2199, (.iconst 0, 1)), (2200, (.invokevirtual 243, 3)), (2203, (.istore 6, 2)), (2205, (.aload_n 2, 1)), (2206, (.invokevirtual 127, 3)), (2209, (.iload 5, 2)), (2211, (.if_icmp .eq 5, 3)), (2214, (.iconst 0, 1)), (2215, (.ireturn, 1)), (2216, (.iload 5, 2)), (2218, (.ifCond .ne 15, 3)), (2221, (.aload_n 3, 1)), (2222, (.iconst 0, 1)), (2223, (.laload, 1)), (2224, (.iload 6, 2)), (2226, (.i2l, 1)), (2227, (.lcmp, 1)), (2228, (.ifCond .eq 5, 3)), (2231, (.iconst 0, 1)), (2232, (.ireturn, 1)), (2233, (.goto 158, 3)), (2236, (.aload_n 1, 1)), (2237, (.aload_n 0, 1)), (2238, (.iload 4, 2)), (2240, (.iconst 1, 1)), (2241, (.iadd, 1)), (2242, (.iaload, 1)), (2243, (.aload_n 0, 1)), (2244, (.iload 4, 2)), (2246, (.iconst 2, 1)), (2247, (.iadd, 1))] : List (Nat × (Instr × Nat))), decode cL_law_ q.1 = .ok q.2 := by decide +kernel
theorem dL_law__2185 : decode cL_law_ 2185 = .ok (.iaload, 1) := decG_32 (2185, (.iaload, 1)) (List.mem_of_getElem? (i := 0) rfl)
theorem dL_law__2186 : decode cL_law_ 2186 = .ok (.aload_n 0, 1) := decG_32 (2186, (.aload_n 0, 1)) (List.mem_of_getElem? (i := 1) rfl)
theorem dL_law__2187 : decode cL_law_ 2187 = .ok (.iload 4, 2) := decG_32 (2187, (.iload 4, 2)) (List.mem_of_getElem? (i := 2) rfl)
theorem dL_law__2189 : decode cL_law_ 2189 = .ok (.iconst 2, 1) := decG_32 (2189, (.iconst 2, 1)) (List.mem_of_getElem? (i := 3) rfl)
theorem dL_law__2190 : decode cL_law_ 2190 = .ok (.iadd, 1) := decG_32 (2190, (.iadd, 1)) (List.mem_of_getElem? (i := 4) rfl)
theorem dL_law__2191 : decode cL_law_ 2191 = .ok (.iaload, 1) := decG_32 (2191, (.iaload, 1)) (List.mem_of_getElem? (i := 5) rfl)
theorem dL_law__2192 : decode cL_law_ 2192 = .ok (.ifCond .eq 7, 3) := decG_32 (2192, (.ifCond .eq 7, 3)) (List.mem_of_getElem? (i := 6) rfl)
theorem dL_law__2195 : decode cL_law_ 2195 = .ok (.iconst 1, 1) := decG_32 (2195, (.iconst 1, 1)) (List.mem_of_getElem? (i := 7) rfl)
theorem dL_law__2196 : decode cL_law_ 2196 = .ok (.goto 4, 3) := decG_32 (2196, (.goto 4, 3)) (List.mem_of_getElem? (i := 8) rfl)
theorem dL_law__2199 : decode cL_law_ 2199 = .ok (.iconst 0, 1) := decG_32 (2199, (.iconst 0, 1)) (List.mem_of_getElem? (i := 9) rfl)
theorem dL_law__2200 : decode cL_law_ 2200 = .ok (.invokevirtual 243, 3) := decG_32 (2200, (.invokevirtual 243, 3)) (List.mem_of_getElem? (i := 10) rfl)
theorem dL_law__2203 : decode cL_law_ 2203 = .ok (.istore 6, 2) := decG_32 (2203, (.istore 6, 2)) (List.mem_of_getElem? (i := 11) rfl)
theorem dL_law__2205 : decode cL_law_ 2205 = .ok (.aload_n 2, 1) := decG_32 (2205, (.aload_n 2, 1)) (List.mem_of_getElem? (i := 12) rfl)
theorem dL_law__2206 : decode cL_law_ 2206 = .ok (.invokevirtual 127, 3) := decG_32 (2206, (.invokevirtual 127, 3)) (List.mem_of_getElem? (i := 13) rfl)
theorem dL_law__2209 : decode cL_law_ 2209 = .ok (.iload 5, 2) := decG_32 (2209, (.iload 5, 2)) (List.mem_of_getElem? (i := 14) rfl)
theorem dL_law__2211 : decode cL_law_ 2211 = .ok (.if_icmp .eq 5, 3) := decG_32 (2211, (.if_icmp .eq 5, 3)) (List.mem_of_getElem? (i := 15) rfl)
theorem dL_law__2214 : decode cL_law_ 2214 = .ok (.iconst 0, 1) := decG_32 (2214, (.iconst 0, 1)) (List.mem_of_getElem? (i := 16) rfl)
theorem dL_law__2215 : decode cL_law_ 2215 = .ok (.ireturn, 1) := decG_32 (2215, (.ireturn, 1)) (List.mem_of_getElem? (i := 17) rfl)
theorem dL_law__2216 : decode cL_law_ 2216 = .ok (.iload 5, 2) := decG_32 (2216, (.iload 5, 2)) (List.mem_of_getElem? (i := 18) rfl)
theorem dL_law__2218 : decode cL_law_ 2218 = .ok (.ifCond .ne 15, 3) := decG_32 (2218, (.ifCond .ne 15, 3)) (List.mem_of_getElem? (i := 19) rfl)
theorem dL_law__2221 : decode cL_law_ 2221 = .ok (.aload_n 3, 1) := decG_32 (2221, (.aload_n 3, 1)) (List.mem_of_getElem? (i := 20) rfl)
theorem dL_law__2222 : decode cL_law_ 2222 = .ok (.iconst 0, 1) := decG_32 (2222, (.iconst 0, 1)) (List.mem_of_getElem? (i := 21) rfl)
theorem dL_law__2223 : decode cL_law_ 2223 = .ok (.laload, 1) := decG_32 (2223, (.laload, 1)) (List.mem_of_getElem? (i := 22) rfl)
theorem dL_law__2224 : decode cL_law_ 2224 = .ok (.iload 6, 2) := decG_32 (2224, (.iload 6, 2)) (List.mem_of_getElem? (i := 23) rfl)
theorem dL_law__2226 : decode cL_law_ 2226 = .ok (.i2l, 1) := decG_32 (2226, (.i2l, 1)) (List.mem_of_getElem? (i := 24) rfl)
theorem dL_law__2227 : decode cL_law_ 2227 = .ok (.lcmp, 1) := decG_32 (2227, (.lcmp, 1)) (List.mem_of_getElem? (i := 25) rfl)
theorem dL_law__2228 : decode cL_law_ 2228 = .ok (.ifCond .eq 5, 3) := decG_32 (2228, (.ifCond .eq 5, 3)) (List.mem_of_getElem? (i := 26) rfl)
theorem dL_law__2231 : decode cL_law_ 2231 = .ok (.iconst 0, 1) := decG_32 (2231, (.iconst 0, 1)) (List.mem_of_getElem? (i := 27) rfl)
theorem dL_law__2232 : decode cL_law_ 2232 = .ok (.ireturn, 1) := decG_32 (2232, (.ireturn, 1)) (List.mem_of_getElem? (i := 28) rfl)
theorem dL_law__2233 : decode cL_law_ 2233 = .ok (.goto 158, 3) := decG_32 (2233, (.goto 158, 3)) (List.mem_of_getElem? (i := 29) rfl)
theorem dL_law__2236 : decode cL_law_ 2236 = .ok (.aload_n 1, 1) := decG_32 (2236, (.aload_n 1, 1)) (List.mem_of_getElem? (i := 30) rfl)
theorem dL_law__2237 : decode cL_law_ 2237 = .ok (.aload_n 0, 1) := decG_32 (2237, (.aload_n 0, 1)) (List.mem_of_getElem? (i := 31) rfl)
theorem dL_law__2238 : decode cL_law_ 2238 = .ok (.iload 4, 2) := decG_32 (2238, (.iload 4, 2)) (List.mem_of_getElem? (i := 32) rfl)
theorem dL_law__2240 : decode cL_law_ 2240 = .ok (.iconst 1, 1) := decG_32 (2240, (.iconst 1, 1)) (List.mem_of_getElem? (i := 33) rfl)
theorem dL_law__2241 : decode cL_law_ 2241 = .ok (.iadd, 1) := decG_32 (2241, (.iadd, 1)) (List.mem_of_getElem? (i := 34) rfl)
theorem dL_law__2242 : decode cL_law_ 2242 = .ok (.iaload, 1) := decG_32 (2242, (.iaload, 1)) (List.mem_of_getElem? (i := 35) rfl)
theorem dL_law__2243 : decode cL_law_ 2243 = .ok (.aload_n 0, 1) := decG_32 (2243, (.aload_n 0, 1)) (List.mem_of_getElem? (i := 36) rfl)
theorem dL_law__2244 : decode cL_law_ 2244 = .ok (.iload 4, 2) := decG_32 (2244, (.iload 4, 2)) (List.mem_of_getElem? (i := 37) rfl)
theorem dL_law__2246 : decode cL_law_ 2246 = .ok (.iconst 2, 1) := decG_32 (2246, (.iconst 2, 1)) (List.mem_of_getElem? (i := 38) rfl)
theorem dL_law__2247 : decode cL_law_ 2247 = .ok (.iadd, 1) := decG_32 (2247, (.iadd, 1)) (List.mem_of_getElem? (i := 39) rfl)
set_option maxRecDepth 100000 in
theorem decG_33 : ∀ q ∈ ([(2248, (.iaload, 1)), (2249, (.aload_n 3, 1)), (2250, (.invokestatic 244, 3)), (2253, (.istore 5, 2)), (2255, (.aload_n 2, 1)), (2256, (.aload_n 0, 1)), (2257, (.iload 4, 2)), (2259, (.iconst 1, 1)), (2260, (.iadd, 1)), (2261, (.iaload, 1)), (2262, (.aload_n 0, 1)), (2263, (.iload 4, 2)), (2265, (.iconst 2, 1)), (2266, (.iadd, 1)), (2267, (.iaload, 1)), (2268, (.invokevirtual 246, 3)), (2271, (.istore 6, 2)), (2273, (.aload_n 2, 1)), (2274, (.invokevirtual 127, 3)), (2277, (.iload 5, 2)), (2279, (.if_icmp .eq 5, 3)), (2282, (.iconst 0, 1)), (2283, (.ireturn, 1)), (2284, (.iload 5, 2)), (2286, (.ifCond .ne 15, 3)), (2289, (.aload_n 3, 1)), (2290, (.iconst 0, 1)), (2291, (.laload, 1)), (2292, (.iload 6, 2)), (2294, (.i2l, 1)), (2295, (.lcmp, 1)), (2296, (.ifCond .eq 5, 3)), (2299, (.iconst 0, 1)), (2300, (.ireturn, 1)), (2301, (.goto 90, 3)), (2304, (.aload_n 1, 1)), (2305, (.aload_n 0, 1)), (2306, (.iload 4, 2)), (2308, (.iconst 1, 1)), (2309, (.iadd, 1))] : List (Nat × (Instr × Nat))), decode cL_law_ q.1 = .ok q.2 := by decide +kernel
theorem dL_law__2248 : decode cL_law_ 2248 = .ok (.iaload, 1) := decG_33 (2248, (.iaload, 1)) (List.mem_of_getElem? (i := 0) rfl)
theorem dL_law__2249 : decode cL_law_ 2249 = .ok (.aload_n 3, 1) := decG_33 (2249, (.aload_n 3, 1)) (List.mem_of_getElem? (i := 1) rfl)
theorem dL_law__2250 : decode cL_law_ 2250 = .ok (.invokestatic 244, 3) := decG_33 (2250, (.invokestatic 244, 3)) (List.mem_of_getElem? (i := 2) rfl)
theorem dL_law__2253 : decode cL_law_ 2253 = .ok (.istore 5, 2) := decG_33 (2253, (.istore 5, 2)) (List.mem_of_getElem? (i := 3) rfl)
theorem dL_law__2255 : decode cL_law_ 2255 = .ok (.aload_n 2, 1) := decG_33 (2255, (.aload_n 2, 1)) (List.mem_of_getElem? (i := 4) rfl)
theorem dL_law__2256 : decode cL_law_ 2256 = .ok (.aload_n 0, 1) := decG_33 (2256, (.aload_n 0, 1)) (List.mem_of_getElem? (i := 5) rfl)
theorem dL_law__2257 : decode cL_law_ 2257 = .ok (.iload 4, 2) := decG_33 (2257, (.iload 4, 2)) (List.mem_of_getElem? (i := 6) rfl)
theorem dL_law__2259 : decode cL_law_ 2259 = .ok (.iconst 1, 1) := decG_33 (2259, (.iconst 1, 1)) (List.mem_of_getElem? (i := 7) rfl)
theorem dL_law__2260 : decode cL_law_ 2260 = .ok (.iadd, 1) := decG_33 (2260, (.iadd, 1)) (List.mem_of_getElem? (i := 8) rfl)
theorem dL_law__2261 : decode cL_law_ 2261 = .ok (.iaload, 1) := decG_33 (2261, (.iaload, 1)) (List.mem_of_getElem? (i := 9) rfl)
theorem dL_law__2262 : decode cL_law_ 2262 = .ok (.aload_n 0, 1) := decG_33 (2262, (.aload_n 0, 1)) (List.mem_of_getElem? (i := 10) rfl)
theorem dL_law__2263 : decode cL_law_ 2263 = .ok (.iload 4, 2) := decG_33 (2263, (.iload 4, 2)) (List.mem_of_getElem? (i := 11) rfl)
theorem dL_law__2265 : decode cL_law_ 2265 = .ok (.iconst 2, 1) := decG_33 (2265, (.iconst 2, 1)) (List.mem_of_getElem? (i := 12) rfl)
theorem dL_law__2266 : decode cL_law_ 2266 = .ok (.iadd, 1) := decG_33 (2266, (.iadd, 1)) (List.mem_of_getElem? (i := 13) rfl)
theorem dL_law__2267 : decode cL_law_ 2267 = .ok (.iaload, 1) := decG_33 (2267, (.iaload, 1)) (List.mem_of_getElem? (i := 14) rfl)
theorem dL_law__2268 : decode cL_law_ 2268 = .ok (.invokevirtual 246, 3) := decG_33 (2268, (.invokevirtual 246, 3)) (List.mem_of_getElem? (i := 15) rfl)
theorem dL_law__2271 : decode cL_law_ 2271 = .ok (.istore 6, 2) := decG_33 (2271, (.istore 6, 2)) (List.mem_of_getElem? (i := 16) rfl)
theorem dL_law__2273 : decode cL_law_ 2273 = .ok (.aload_n 2, 1) := decG_33 (2273, (.aload_n 2, 1)) (List.mem_of_getElem? (i := 17) rfl)
theorem dL_law__2274 : decode cL_law_ 2274 = .ok (.invokevirtual 127, 3) := decG_33 (2274, (.invokevirtual 127, 3)) (List.mem_of_getElem? (i := 18) rfl)
theorem dL_law__2277 : decode cL_law_ 2277 = .ok (.iload 5, 2) := decG_33 (2277, (.iload 5, 2)) (List.mem_of_getElem? (i := 19) rfl)
theorem dL_law__2279 : decode cL_law_ 2279 = .ok (.if_icmp .eq 5, 3) := decG_33 (2279, (.if_icmp .eq 5, 3)) (List.mem_of_getElem? (i := 20) rfl)
theorem dL_law__2282 : decode cL_law_ 2282 = .ok (.iconst 0, 1) := decG_33 (2282, (.iconst 0, 1)) (List.mem_of_getElem? (i := 21) rfl)
theorem dL_law__2283 : decode cL_law_ 2283 = .ok (.ireturn, 1) := decG_33 (2283, (.ireturn, 1)) (List.mem_of_getElem? (i := 22) rfl)
theorem dL_law__2284 : decode cL_law_ 2284 = .ok (.iload 5, 2) := decG_33 (2284, (.iload 5, 2)) (List.mem_of_getElem? (i := 23) rfl)
theorem dL_law__2286 : decode cL_law_ 2286 = .ok (.ifCond .ne 15, 3) := decG_33 (2286, (.ifCond .ne 15, 3)) (List.mem_of_getElem? (i := 24) rfl)
theorem dL_law__2289 : decode cL_law_ 2289 = .ok (.aload_n 3, 1) := decG_33 (2289, (.aload_n 3, 1)) (List.mem_of_getElem? (i := 25) rfl)
theorem dL_law__2290 : decode cL_law_ 2290 = .ok (.iconst 0, 1) := decG_33 (2290, (.iconst 0, 1)) (List.mem_of_getElem? (i := 26) rfl)
theorem dL_law__2291 : decode cL_law_ 2291 = .ok (.laload, 1) := decG_33 (2291, (.laload, 1)) (List.mem_of_getElem? (i := 27) rfl)
theorem dL_law__2292 : decode cL_law_ 2292 = .ok (.iload 6, 2) := decG_33 (2292, (.iload 6, 2)) (List.mem_of_getElem? (i := 28) rfl)
theorem dL_law__2294 : decode cL_law_ 2294 = .ok (.i2l, 1) := decG_33 (2294, (.i2l, 1)) (List.mem_of_getElem? (i := 29) rfl)
theorem dL_law__2295 : decode cL_law_ 2295 = .ok (.lcmp, 1) := decG_33 (2295, (.lcmp, 1)) (List.mem_of_getElem? (i := 30) rfl)
theorem dL_law__2296 : decode cL_law_ 2296 = .ok (.ifCond .eq 5, 3) := decG_33 (2296, (.ifCond .eq 5, 3)) (List.mem_of_getElem? (i := 31) rfl)
theorem dL_law__2299 : decode cL_law_ 2299 = .ok (.iconst 0, 1) := decG_33 (2299, (.iconst 0, 1)) (List.mem_of_getElem? (i := 32) rfl)
theorem dL_law__2300 : decode cL_law_ 2300 = .ok (.ireturn, 1) := decG_33 (2300, (.ireturn, 1)) (List.mem_of_getElem? (i := 33) rfl)
theorem dL_law__2301 : decode cL_law_ 2301 = .ok (.goto 90, 3) := decG_33 (2301, (.goto 90, 3)) (List.mem_of_getElem? (i := 34) rfl)
theorem dL_law__2304 : decode cL_law_ 2304 = .ok (.aload_n 1, 1) := decG_33 (2304, (.aload_n 1, 1)) (List.mem_of_getElem? (i := 35) rfl)
theorem dL_law__2305 : decode cL_law_ 2305 = .ok (.aload_n 0, 1) := decG_33 (2305, (.aload_n 0, 1)) (List.mem_of_getElem? (i := 36) rfl)
theorem dL_law__2306 : decode cL_law_ 2306 = .ok (.iload 4, 2) := decG_33 (2306, (.iload 4, 2)) (List.mem_of_getElem? (i := 37) rfl)
theorem dL_law__2308 : decode cL_law_ 2308 = .ok (.iconst 1, 1) := decG_33 (2308, (.iconst 1, 1)) (List.mem_of_getElem? (i := 38) rfl)
theorem dL_law__2309 : decode cL_law_ 2309 = .ok (.iadd, 1) := decG_33 (2309, (.iadd, 1)) (List.mem_of_getElem? (i := 39) rfl)
set_option maxRecDepth 100000 in
theorem decG_34 : ∀ q ∈ ([(2310, (.iaload, 1)), (2311, (.invokevirtual 247, 3)), (2314, (.aload_n 2, 1)), (2315, (.aload_n 0, 1)), (2316, (.iload 4, 2)), (2318, (.iconst 1, 1)), (2319, (.iadd, 1)), (2320, (.iaload, 1)), (2321, (.invokevirtual 250, 3)), (2324, (.if_icmp .eq 67, 3)), (2327, (.iconst 0, 1)), (2328, (.ireturn, 1)), (2329, (.aload_n 1, 1)), (2330, (.invokevirtual 251, 3)), (2333, (.aload_n 2, 1)), (2334, (.invokevirtual 255, 3)), (2337, (.if_icmp .eq 54, 3)), (2340, (.iconst 0, 1)), (2341, (.ireturn, 1)), (2342, (.aload_n 1, 1)), (2343, (.invokevirtual 256, 3)), (2346, (.aload_n 2, 1)), (2347, (.invokevirtual 259, 3)), (2350, (.goto 41, 3)), (2353, (.aload_n 1, 1)), (2354, (.invokevirtual 260, 3)), (2357, (.aload_n 2, 1)), (2358, (.invokevirtual 263, 3)), (2361, (.if_icmp .eq 30, 3)), (2364, (.iconst 0, 1)), (2365, (.ireturn, 1)), (2366, (.aload_n 1, 1)), (2367, (.aload_n 0, 1)), (2368, (.iload 4, 2)), (2370, (.iconst 1, 1)), (2371, (.iadd, 1)), (2372, (.iaload, 1)), (2373, (.invokevirtual 264, 3)), (2376, (.aload_n 2, 1)), (2377, (.aload_n 0, 1))] : List (Nat × (Instr × Nat))), decode cL_law_ q.1 = .ok q.2 := by decide +kernel
theorem dL_law__2310 : decode cL_law_ 2310 = .ok (.iaload, 1) := decG_34 (2310, (.iaload, 1)) (List.mem_of_getElem? (i := 0) rfl)
theorem dL_law__2311 : decode cL_law_ 2311 = .ok (.invokevirtual 247, 3) := decG_34 (2311, (.invokevirtual 247, 3)) (List.mem_of_getElem? (i := 1) rfl)
theorem dL_law__2314 : decode cL_law_ 2314 = .ok (.aload_n 2, 1) := decG_34 (2314, (.aload_n 2, 1)) (List.mem_of_getElem? (i := 2) rfl)
theorem dL_law__2315 : decode cL_law_ 2315 = .ok (.aload_n 0, 1) := decG_34 (2315, (.aload_n 0, 1)) (List.mem_of_getElem? (i := 3) rfl)
theorem dL_law__2316 : decode cL_law_ 2316 = .ok (.iload 4, 2) := decG_34 (2316, (.iload 4, 2)) (List.mem_of_getElem? (i := 4) rfl)
theorem dL_law__2318 : decode cL_law_ 2318 = .ok (.iconst 1, 1) := decG_34 (2318, (.iconst 1, 1)) (List.mem_of_getElem? (i := 5) rfl)
theorem dL_law__2319 : decode cL_law_ 2319 = .ok (.iadd, 1) := decG_34 (2319, (.iadd, 1)) (List.mem_of_getElem? (i := 6) rfl)
theorem dL_law__2320 : decode cL_law_ 2320 = .ok (.iaload, 1) := decG_34 (2320, (.iaload, 1)) (List.mem_of_getElem? (i := 7) rfl)
theorem dL_law__2321 : decode cL_law_ 2321 = .ok (.invokevirtual 250, 3) := decG_34 (2321, (.invokevirtual 250, 3)) (List.mem_of_getElem? (i := 8) rfl)
theorem dL_law__2324 : decode cL_law_ 2324 = .ok (.if_icmp .eq 67, 3) := decG_34 (2324, (.if_icmp .eq 67, 3)) (List.mem_of_getElem? (i := 9) rfl)
theorem dL_law__2327 : decode cL_law_ 2327 = .ok (.iconst 0, 1) := decG_34 (2327, (.iconst 0, 1)) (List.mem_of_getElem? (i := 10) rfl)
theorem dL_law__2328 : decode cL_law_ 2328 = .ok (.ireturn, 1) := decG_34 (2328, (.ireturn, 1)) (List.mem_of_getElem? (i := 11) rfl)
theorem dL_law__2329 : decode cL_law_ 2329 = .ok (.aload_n 1, 1) := decG_34 (2329, (.aload_n 1, 1)) (List.mem_of_getElem? (i := 12) rfl)
theorem dL_law__2330 : decode cL_law_ 2330 = .ok (.invokevirtual 251, 3) := decG_34 (2330, (.invokevirtual 251, 3)) (List.mem_of_getElem? (i := 13) rfl)
theorem dL_law__2333 : decode cL_law_ 2333 = .ok (.aload_n 2, 1) := decG_34 (2333, (.aload_n 2, 1)) (List.mem_of_getElem? (i := 14) rfl)
theorem dL_law__2334 : decode cL_law_ 2334 = .ok (.invokevirtual 255, 3) := decG_34 (2334, (.invokevirtual 255, 3)) (List.mem_of_getElem? (i := 15) rfl)
theorem dL_law__2337 : decode cL_law_ 2337 = .ok (.if_icmp .eq 54, 3) := decG_34 (2337, (.if_icmp .eq 54, 3)) (List.mem_of_getElem? (i := 16) rfl)
theorem dL_law__2340 : decode cL_law_ 2340 = .ok (.iconst 0, 1) := decG_34 (2340, (.iconst 0, 1)) (List.mem_of_getElem? (i := 17) rfl)
theorem dL_law__2341 : decode cL_law_ 2341 = .ok (.ireturn, 1) := decG_34 (2341, (.ireturn, 1)) (List.mem_of_getElem? (i := 18) rfl)
theorem dL_law__2342 : decode cL_law_ 2342 = .ok (.aload_n 1, 1) := decG_34 (2342, (.aload_n 1, 1)) (List.mem_of_getElem? (i := 19) rfl)
theorem dL_law__2343 : decode cL_law_ 2343 = .ok (.invokevirtual 256, 3) := decG_34 (2343, (.invokevirtual 256, 3)) (List.mem_of_getElem? (i := 20) rfl)
theorem dL_law__2346 : decode cL_law_ 2346 = .ok (.aload_n 2, 1) := decG_34 (2346, (.aload_n 2, 1)) (List.mem_of_getElem? (i := 21) rfl)
theorem dL_law__2347 : decode cL_law_ 2347 = .ok (.invokevirtual 259, 3) := decG_34 (2347, (.invokevirtual 259, 3)) (List.mem_of_getElem? (i := 22) rfl)
theorem dL_law__2350 : decode cL_law_ 2350 = .ok (.goto 41, 3) := decG_34 (2350, (.goto 41, 3)) (List.mem_of_getElem? (i := 23) rfl)
theorem dL_law__2353 : decode cL_law_ 2353 = .ok (.aload_n 1, 1) := decG_34 (2353, (.aload_n 1, 1)) (List.mem_of_getElem? (i := 24) rfl)
theorem dL_law__2354 : decode cL_law_ 2354 = .ok (.invokevirtual 260, 3) := decG_34 (2354, (.invokevirtual 260, 3)) (List.mem_of_getElem? (i := 25) rfl)
theorem dL_law__2357 : decode cL_law_ 2357 = .ok (.aload_n 2, 1) := decG_34 (2357, (.aload_n 2, 1)) (List.mem_of_getElem? (i := 26) rfl)
theorem dL_law__2358 : decode cL_law_ 2358 = .ok (.invokevirtual 263, 3) := decG_34 (2358, (.invokevirtual 263, 3)) (List.mem_of_getElem? (i := 27) rfl)
theorem dL_law__2361 : decode cL_law_ 2361 = .ok (.if_icmp .eq 30, 3) := decG_34 (2361, (.if_icmp .eq 30, 3)) (List.mem_of_getElem? (i := 28) rfl)
theorem dL_law__2364 : decode cL_law_ 2364 = .ok (.iconst 0, 1) := decG_34 (2364, (.iconst 0, 1)) (List.mem_of_getElem? (i := 29) rfl)
theorem dL_law__2365 : decode cL_law_ 2365 = .ok (.ireturn, 1) := decG_34 (2365, (.ireturn, 1)) (List.mem_of_getElem? (i := 30) rfl)
theorem dL_law__2366 : decode cL_law_ 2366 = .ok (.aload_n 1, 1) := decG_34 (2366, (.aload_n 1, 1)) (List.mem_of_getElem? (i := 31) rfl)
theorem dL_law__2367 : decode cL_law_ 2367 = .ok (.aload_n 0, 1) := decG_34 (2367, (.aload_n 0, 1)) (List.mem_of_getElem? (i := 32) rfl)
theorem dL_law__2368 : decode cL_law_ 2368 = .ok (.iload 4, 2) := decG_34 (2368, (.iload 4, 2)) (List.mem_of_getElem? (i := 33) rfl)
theorem dL_law__2370 : decode cL_law_ 2370 = .ok (.iconst 1, 1) := decG_34 (2370, (.iconst 1, 1)) (List.mem_of_getElem? (i := 34) rfl)
theorem dL_law__2371 : decode cL_law_ 2371 = .ok (.iadd, 1) := decG_34 (2371, (.iadd, 1)) (List.mem_of_getElem? (i := 35) rfl)
theorem dL_law__2372 : decode cL_law_ 2372 = .ok (.iaload, 1) := decG_34 (2372, (.iaload, 1)) (List.mem_of_getElem? (i := 36) rfl)
theorem dL_law__2373 : decode cL_law_ 2373 = .ok (.invokevirtual 264, 3) := decG_34 (2373, (.invokevirtual 264, 3)) (List.mem_of_getElem? (i := 37) rfl)
theorem dL_law__2376 : decode cL_law_ 2376 = .ok (.aload_n 2, 1) := decG_34 (2376, (.aload_n 2, 1)) (List.mem_of_getElem? (i := 38) rfl)
theorem dL_law__2377 : decode cL_law_ 2377 = .ok (.aload_n 0, 1) := decG_34 (2377, (.aload_n 0, 1)) (List.mem_of_getElem? (i := 39) rfl)
set_option maxRecDepth 100000 in
theorem decG_35 : ∀ q ∈ ([(2378, (.iload 4, 2)), (2380, (.iconst 1, 1)), (2381, (.iadd, 1)), (2382, (.iaload, 1)), (2383, (.invokevirtual 267, 3)), (2386, (.if_icmp .eq 5, 3)), (2389, (.iconst 0, 1)), (2390, (.ireturn, 1)), (2391, (.iinc 4 6, 3)), (2394, (.goto (-2371), 3)), (2397, (.iconst 1, 1)), (2398, (.ireturn, 1))] : List (Nat × (Instr × Nat))), decode cL_law_ q.1 = .ok q.2 := by decide +kernel
theorem dL_law__2378 : decode cL_law_ 2378 = .ok (.iload 4, 2) := decG_35 (2378, (.iload 4, 2)) (List.mem_of_getElem? (i := 0) rfl)
theorem dL_law__2380 : decode cL_law_ 2380 = .ok (.iconst 1, 1) := decG_35 (2380, (.iconst 1, 1)) (List.mem_of_getElem? (i := 1) rfl)
theorem dL_law__2381 : decode cL_law_ 2381 = .ok (.iadd, 1) := decG_35 (2381, (.iadd, 1)) (List.mem_of_getElem? (i := 2) rfl)
theorem dL_law__2382 : decode cL_law_ 2382 = .ok (.iaload, 1) := decG_35 (2382, (.iaload, 1)) (List.mem_of_getElem? (i := 3) rfl)
theorem dL_law__2383 : decode cL_law_ 2383 = .ok (.invokevirtual 267, 3) := decG_35 (2383, (.invokevirtual 267, 3)) (List.mem_of_getElem? (i := 4) rfl)
theorem dL_law__2386 : decode cL_law_ 2386 = .ok (.if_icmp .eq 5, 3) := decG_35 (2386, (.if_icmp .eq 5, 3)) (List.mem_of_getElem? (i := 5) rfl)
theorem dL_law__2389 : decode cL_law_ 2389 = .ok (.iconst 0, 1) := decG_35 (2389, (.iconst 0, 1)) (List.mem_of_getElem? (i := 6) rfl)
theorem dL_law__2390 : decode cL_law_ 2390 = .ok (.ireturn, 1) := decG_35 (2390, (.ireturn, 1)) (List.mem_of_getElem? (i := 7) rfl)
theorem dL_law__2391 : decode cL_law_ 2391 = .ok (.iinc 4 6, 3) := decG_35 (2391, (.iinc 4 6, 3)) (List.mem_of_getElem? (i := 8) rfl)
theorem dL_law__2394 : decode cL_law_ 2394 = .ok (.goto (-2371), 3) := decG_35 (2394, (.goto (-2371), 3)) (List.mem_of_getElem? (i := 9) rfl)
theorem dL_law__2397 : decode cL_law_ 2397 = .ok (.iconst 1, 1) := decG_35 (2397, (.iconst 1, 1)) (List.mem_of_getElem? (i := 10) rfl)
theorem dL_law__2398 : decode cL_law_ 2398 = .ok (.ireturn, 1) := decG_35 (2398, (.ireturn, 1)) (List.mem_of_getElem? (i := 11) rfl)
