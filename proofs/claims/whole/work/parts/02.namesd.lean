theorem dX10_part_0 : decode cX10_part 0 = .ok (.aload_n 0, 1) := by decide +kernel
theorem dX10_part_1 : decode cX10_part 1 = .ok (.getfield 25, 3) := by decide +kernel
theorem dX10_part_4 : decode cX10_part 4 = .ok (.iconst (-1), 1) := by decide +kernel
theorem dX10_part_5 : decode cX10_part 5 = .ok (.if_icmp .eq 5, 3) := by decide +kernel
theorem dX10_part_8 : decode cX10_part 8 = .ok (.iconst 0, 1) := by decide +kernel
theorem dX10_part_9 : decode cX10_part 9 = .ok (.ireturn, 1) := by decide +kernel
theorem dX10_part_10 : decode cX10_part 10 = .ok (.aload_n 0, 1) := by decide +kernel
theorem dX10_part_11 : decode cX10_part 11 = .ok (.invokevirtual 90, 3) := by decide +kernel
theorem dX10_part_14 : decode cX10_part 14 = .ok (.aload_n 0, 1) := by decide +kernel
theorem dX10_part_15 : decode cX10_part 15 = .ok (.getfield 80, 3) := by decide +kernel
theorem dX10_part_18 : decode cX10_part 18 = .ok (.aload_n 0, 1) := by decide +kernel
theorem dX10_part_19 : decode cX10_part 19 = .ok (.getfield 83, 3) := by decide +kernel
theorem dX10_part_22 : decode cX10_part 22 = .ok (.if_icmp .ge 30, 3) := by decide +kernel
theorem dX10_part_25 : decode cX10_part 25 = .ok (.aload_n 0, 1) := by decide +kernel
theorem dX10_part_26 : decode cX10_part 26 = .ok (.aload_n 0, 1) := by decide +kernel
theorem dX10_part_27 : decode cX10_part 27 = .ok (.getfield 80, 3) := by decide +kernel
theorem dX10_part_30 : decode cX10_part 30 = .ok (.invokevirtual 86, 3) := by decide +kernel
theorem dX10_part_33 : decode cX10_part 33 = .ok (.bipush 48, 2) := by decide +kernel
theorem dX10_part_35 : decode cX10_part 35 = .ok (.bipush 57, 2) := by decide +kernel
theorem dX10_part_37 : decode cX10_part 37 = .ok (.invokestatic 66, 3) := by decide +kernel
theorem dX10_part_40 : decode cX10_part 40 = .ok (.ifCond .eq 12, 3) := by decide +kernel
theorem dX10_part_43 : decode cX10_part 43 = .ok (.aload_n 0, 1) := by decide +kernel
theorem dX10_part_44 : decode cX10_part 44 = .ok (.iconst 0, 1) := by decide +kernel
theorem dX10_part_45 : decode cX10_part 45 = .ok (.sipush 999, 3) := by decide +kernel
theorem dX10_part_48 : decode cX10_part 48 = .ok (.invokevirtual 114, 3) := by decide +kernel
theorem dX10_part_51 : decode cX10_part 51 = .ok (.ireturn, 1) := by decide +kernel
theorem dX10_part_52 : decode cX10_part 52 = .ok (.aload_n 0, 1) := by decide +kernel
theorem dX10_part_53 : decode cX10_part 53 = .ok (.ldc 132, 2) := by decide +kernel
theorem dX10_part_55 : decode cX10_part 55 = .ok (.invokevirtual 110, 3) := by decide +kernel
theorem dX10_part_58 : decode cX10_part 58 = .ok (.ifCond .eq 7, 3) := by decide +kernel
theorem dX10_part_61 : decode cX10_part 61 = .ok (.iconst 0, 1) := by decide +kernel
theorem dX10_part_62 : decode cX10_part 62 = .ok (.goto 69, 3) := by decide +kernel
theorem dX10_part_65 : decode cX10_part 65 = .ok (.aload_n 0, 1) := by decide +kernel
theorem dX10_part_66 : decode cX10_part 66 = .ok (.ldc 134, 2) := by decide +kernel
theorem dX10_part_68 : decode cX10_part 68 = .ok (.invokevirtual 110, 3) := by decide +kernel
theorem dX10_part_71 : decode cX10_part 71 = .ok (.ifCond .eq 7, 3) := by decide +kernel
theorem dX10_part_74 : decode cX10_part 74 = .ok (.iconst 1, 1) := by decide +kernel
theorem dX10_part_75 : decode cX10_part 75 = .ok (.goto 56, 3) := by decide +kernel
theorem dX10_part_78 : decode cX10_part 78 = .ok (.aload_n 0, 1) := by decide +kernel
theorem dX10_part_79 : decode cX10_part 79 = .ok (.ldc 136, 2) := by decide +kernel
theorem dX10_part_81 : decode cX10_part 81 = .ok (.invokevirtual 110, 3) := by decide +kernel
theorem dX10_part_84 : decode cX10_part 84 = .ok (.ifCond .eq 7, 3) := by decide +kernel
theorem dX10_part_87 : decode cX10_part 87 = .ok (.iconst 2, 1) := by decide +kernel
theorem dX10_part_88 : decode cX10_part 88 = .ok (.goto 43, 3) := by decide +kernel
theorem dX10_part_91 : decode cX10_part 91 = .ok (.aload_n 0, 1) := by decide +kernel
theorem dX10_part_92 : decode cX10_part 92 = .ok (.ldc 187, 2) := by decide +kernel
theorem dX10_part_94 : decode cX10_part 94 = .ok (.invokevirtual 110, 3) := by decide +kernel
theorem dX10_part_97 : decode cX10_part 97 = .ok (.ifCond .eq 7, 3) := by decide +kernel
theorem dX10_part_100 : decode cX10_part 100 = .ok (.iconst 3, 1) := by decide +kernel
theorem dX10_part_101 : decode cX10_part 101 = .ok (.goto 30, 3) := by decide +kernel
theorem dX10_part_104 : decode cX10_part 104 = .ok (.aload_n 0, 1) := by decide +kernel
theorem dX10_part_105 : decode cX10_part 105 = .ok (.ldc 189, 2) := by decide +kernel
theorem dX10_part_107 : decode cX10_part 107 = .ok (.invokevirtual 110, 3) := by decide +kernel
theorem dX10_part_110 : decode cX10_part 110 = .ok (.ifCond .eq 7, 3) := by decide +kernel
theorem dX10_part_113 : decode cX10_part 113 = .ok (.iconst 4, 1) := by decide +kernel
theorem dX10_part_114 : decode cX10_part 114 = .ok (.goto 17, 3) := by decide +kernel
theorem dX10_part_117 : decode cX10_part 117 = .ok (.aload_n 0, 1) := by decide +kernel
theorem dX10_part_118 : decode cX10_part 118 = .ok (.ldc 191, 2) := by decide +kernel
theorem dX10_part_120 : decode cX10_part 120 = .ok (.invokevirtual 110, 3) := by decide +kernel
theorem dX10_part_123 : decode cX10_part 123 = .ok (.ifCond .eq 7, 3) := by decide +kernel
theorem dX10_part_126 : decode cX10_part 126 = .ok (.iconst 5, 1) := by decide +kernel
theorem dX10_part_127 : decode cX10_part 127 = .ok (.goto 4, 3) := by decide +kernel
theorem dX10_part_130 : decode cX10_part 130 = .ok (.iconst (-1), 1) := by decide +kernel
theorem dX10_part_131 : decode cX10_part 131 = .ok (.istore_n 1, 1) := by decide +kernel
theorem dX10_part_132 : decode cX10_part 132 = .ok (.iload_n 1, 1) := by decide +kernel
theorem dX10_part_133 : decode cX10_part 133 = .ok (.iconst (-1), 1) := by decide +kernel
theorem dX10_part_134 : decode cX10_part 134 = .ok (.if_icmp .ne 13, 3) := by decide +kernel
theorem dX10_part_137 : decode cX10_part 137 = .ok (.aload_n 0, 1) := by decide +kernel
theorem dX10_part_138 : decode cX10_part 138 = .ok (.aload_n 0, 1) := by decide +kernel
theorem dX10_part_139 : decode cX10_part 139 = .ok (.getfield 80, 3) := by decide +kernel
theorem dX10_part_142 : decode cX10_part 142 = .ok (.invokevirtual 106, 3) := by decide +kernel
theorem dX10_part_145 : decode cX10_part 145 = .ok (.iconst 0, 1) := by decide +kernel
theorem dX10_part_146 : decode cX10_part 146 = .ok (.ireturn, 1) := by decide +kernel
theorem dX10_part_147 : decode cX10_part 147 = .ok (.aload_n 0, 1) := by decide +kernel
theorem dX10_part_148 : decode cX10_part 148 = .ok (.getfield 29, 3) := by decide +kernel
theorem dX10_part_151 : decode cX10_part 151 = .ok (.iload_n 1, 1) := by decide +kernel
theorem dX10_part_152 : decode cX10_part 152 = .ok (.iaload, 1) := by decide +kernel
theorem dX10_part_153 : decode cX10_part 153 = .ok (.ireturn, 1) := by decide +kernel
set_option maxRecDepth 20000 in
theorem ggX10_sum_X10_part : GoodIn wsX10_sum wsX10_part := goodIn_r _ [7, 1, 2, 8, 9, 10, 11, 12, 6, 13, 14, 15, 16, 17, 18, 19, 20, 21, 22, 23, 24, 25, 26, 27, 28, 29, 30, 31, 32, 33, 34, 35, 36, 37, 38, 39, 40, 41, 42, 43, 44, 45, 46, 47, 48, 49, 50, 51, 52, 53, 54, 55, 56, 57, 58, 59, 60, 61, 62, 63, 64, 65, 66, 67, 68, 69, 70, 71, 72, 73, 74, 75, 76, 77, 78, 79, 80, 81, 82, 83, 84, 85, 86, 87, 88, 93, 94, 95, 96, 97, 98, 99, 100, 101, 102, 103, 104, 105, 106, 107, 108, 109, 110, 111, 112, 113, 114, 115, 116, 117, 118, 119, 120] (by decide +kernel) (by decide +kernel)
set_option maxRecDepth 20000 in
theorem gX10_sum_X10_part : GoodIn wsX10_sum (wsV RX10 193 RX10 yX10_part wsX10_part) := goodIn_app (goodIn_of _ (by decide +kernel)) ggX10_sum_X10_part
set_option maxRecDepth 20000 in
theorem ggX10_sum_X10_isSign : GoodIn wsX10_sum wsX10_isSign := goodIn_r _ [92, 2, 8, 10, 11, 12, 6, 13, 14, 15, 16, 17, 18, 19, 20, 93, 94, 95, 96, 97, 98, 99, 100, 101, 102, 103, 104, 105, 106, 107, 108, 109, 110, 111, 112, 113, 114, 115, 116, 117, 118, 119, 120] (by decide +kernel) (by decide +kernel)
set_option maxRecDepth 20000 in
theorem gX10_sum_X10_isSign : GoodIn wsX10_sum (wsV RX10 167 RX10 yX10_isSign wsX10_isSign) := goodIn_app (goodIn_of _ (by decide +kernel)) ggX10_sum_X10_isSign
theorem dX10_sum_0 : decode cX10_sum 0 = .ok (.aload_n 0, 1) := by decide +kernel
theorem dX10_sum_1 : decode cX10_sum 1 = .ok (.invokevirtual 193, 3) := by decide +kernel
theorem dX10_sum_4 : decode cX10_sum 4 = .ok (.istore_n 1, 1) := by decide +kernel
theorem dX10_sum_5 : decode cX10_sum 5 = .ok (.aload_n 0, 1) := by decide +kernel
theorem dX10_sum_6 : decode cX10_sum 6 = .ok (.getfield 25, 3) := by decide +kernel
theorem dX10_sum_9 : decode cX10_sum 9 = .ok (.iconst (-1), 1) := by decide +kernel
theorem dX10_sum_10 : decode cX10_sum 10 = .ok (.if_icmp .ne 32, 3) := by decide +kernel
theorem dX10_sum_13 : decode cX10_sum 13 = .ok (.aload_n 0, 1) := by decide +kernel
theorem dX10_sum_14 : decode cX10_sum 14 = .ok (.bipush 43, 2) := by decide +kernel
theorem dX10_sum_16 : decode cX10_sum 16 = .ok (.invokevirtual 167, 3) := by decide +kernel
theorem dX10_sum_19 : decode cX10_sum 19 = .ok (.ifCond .eq 23, 3) := by decide +kernel
theorem dX10_sum_22 : decode cX10_sum 22 = .ok (.aload_n 0, 1) := by decide +kernel
theorem dX10_sum_23 : decode cX10_sum 23 = .ok (.dup, 1) := by decide +kernel
theorem dX10_sum_24 : decode cX10_sum 24 = .ok (.getfield 80, 3) := by decide +kernel
theorem dX10_sum_27 : decode cX10_sum 27 = .ok (.iconst 1, 1) := by decide +kernel
theorem dX10_sum_28 : decode cX10_sum 28 = .ok (.iadd, 1) := by decide +kernel
theorem dX10_sum_29 : decode cX10_sum 29 = .ok (.putfield 80, 3) := by decide +kernel
theorem dX10_sum_32 : decode cX10_sum 32 = .ok (.iload_n 1, 1) := by decide +kernel
theorem dX10_sum_33 : decode cX10_sum 33 = .ok (.aload_n 0, 1) := by decide +kernel
theorem dX10_sum_34 : decode cX10_sum 34 = .ok (.invokevirtual 193, 3) := by decide +kernel
theorem dX10_sum_37 : decode cX10_sum 37 = .ok (.iadd, 1) := by decide +kernel
theorem dX10_sum_38 : decode cX10_sum 38 = .ok (.istore_n 1, 1) := by decide +kernel
theorem dX10_sum_39 : decode cX10_sum 39 = .ok (.goto (-34), 3) := by decide +kernel
theorem dX10_sum_42 : decode cX10_sum 42 = .ok (.iload_n 1, 1) := by decide +kernel
theorem dX10_sum_43 : decode cX10_sum 43 = .ok (.ireturn, 1) := by decide +kernel
set_option maxRecDepth 20000 in
theorem ggX10_plain_X10_says : GoodIn wsX10_plain wsX10_says := goodIn_r _ [8, 3, 9, 10, 11, 12, 7, 13, 14, 15, 16, 17, 18, 19, 20, 21, 22, 23, 24, 25, 26, 27, 28, 29, 30, 31, 32, 33, 34, 35, 36, 37, 38, 39, 40, 41, 42, 43, 44, 45, 46, 47, 48, 49, 50, 51, 52, 53, 54, 55, 56, 57, 58, 59, 60, 61, 62, 63, 64, 65, 66, 67, 68, 69, 70, 71, 72, 101, 102, 103, 104, 105, 106, 107, 108, 109, 110, 111, 112, 113, 114, 115, 116, 117, 118, 119, 120, 121, 122, 123, 124, 125, 126, 127, 128] (by decide +kernel) (by decide +kernel)
set_option maxRecDepth 20000 in
theorem gX10_plain_X10_says : GoodIn wsX10_plain (wsV RX10 110 RX10 yX10_says wsX10_says) := goodIn_app (goodIn_of _ (by decide +kernel)) ggX10_plain_X10_says
set_option maxRecDepth 20000 in
theorem ggX10_plain_X10_isOf : GoodIn wsX10_plain wsX10_isOf := goodIn_r _ [75] (by decide +kernel) (by decide +kernel)
set_option maxRecDepth 20000 in
theorem gX10_plain_X10_isOf : GoodIn wsX10_plain (va_wsS RX10 117 yX10_isOf wsX10_isOf) := goodIn_app (goodIn_of _ (by decide +kernel)) ggX10_plain_X10_isOf
set_option maxRecDepth 20000 in
theorem ggX10_plain_X10_sum : GoodIn wsX10_plain wsX10_sum := goodIn_r _ [79, 2, 3, 80, 81, 82, 7, 83, 9, 84, 10, 11, 12, 13, 14, 15, 16, 17, 18, 19, 20, 21, 22, 23, 85, 86, 87, 88, 89, 90, 91, 92, 93, 94, 95, 96, 4, 5, 6, 8, 24, 25, 26, 27, 28, 29, 30, 31, 32, 33, 34, 35, 36, 37, 38, 39, 40, 41, 42, 43, 44, 45, 46, 47, 48, 49, 50, 51, 52, 53, 54, 55, 56, 57, 58, 59, 60, 61, 62, 63, 64, 65, 66, 67, 68, 69, 70, 71, 72, 97, 98, 99, 100, 101, 102, 103, 104, 105, 106, 107, 108, 109, 110, 111, 112, 113, 114, 115, 116, 117, 118, 119, 120, 121, 122, 123, 124, 125, 126, 127, 128] (by decide +kernel) (by decide +kernel)
set_option maxRecDepth 20000 in
theorem gX10_plain_X10_sum : GoodIn wsX10_plain (wsV RX10 211 RX10 yX10_sum wsX10_sum) := goodIn_app (goodIn_of _ (by decide +kernel)) ggX10_plain_X10_sum
set_option maxRecDepth 20000 in
theorem ggX10_plain_X10_isSign : GoodIn wsX10_plain wsX10_isSign := goodIn_r _ [100, 3, 9, 10, 11, 12, 7, 13, 14, 15, 16, 17, 18, 19, 20, 101, 102, 103, 104, 105, 106, 107, 108, 109, 110, 111, 112, 113, 114, 115, 116, 117, 118, 119, 120, 121, 122, 123, 124, 125, 126, 127, 128] (by decide +kernel) (by decide +kernel)
set_option maxRecDepth 20000 in
theorem gX10_plain_X10_isSign : GoodIn wsX10_plain (wsV RX10 167 RX10 yX10_isSign wsX10_isSign) := goodIn_app (goodIn_of _ (by decide +kernel)) ggX10_plain_X10_isSign
set_option maxRecDepth 20000 in
theorem ggX10_plain_X10_wrong : GoodIn wsX10_plain wsX10_wrong := goodIn_r _ [96, 2, 101, 102, 103, 104, 105, 106, 107, 108, 109, 110, 111, 112, 113, 114, 115, 116, 117, 118, 119, 120, 121, 122, 123, 124, 125, 126, 127, 128] (by decide +kernel) (by decide +kernel)
set_option maxRecDepth 20000 in
theorem gX10_plain_X10_wrong : GoodIn wsX10_plain (wsV RX10 106 RX10 yX10_wrong wsX10_wrong) := goodIn_app (goodIn_of _ (by decide +kernel)) ggX10_plain_X10_wrong
theorem dX10_plain_0 : decode cX10_plain 0 = .ok (.aload_n 0, 1) := by decide +kernel
theorem dX10_plain_1 : decode cX10_plain 1 = .ok (.ldc 196, 2) := by decide +kernel
theorem dX10_plain_3 : decode cX10_plain 3 = .ok (.invokevirtual 110, 3) := by decide +kernel
theorem dX10_plain_6 : decode cX10_plain 6 = .ok (.ifCond .eq 7, 3) := by decide +kernel
theorem dX10_plain_9 : decode cX10_plain 9 = .ok (.iconst 0, 1) := by decide +kernel
theorem dX10_plain_10 : decode cX10_plain 10 = .ok (.goto 69, 3) := by decide +kernel
theorem dX10_plain_13 : decode cX10_plain 13 = .ok (.aload_n 0, 1) := by decide +kernel
theorem dX10_plain_14 : decode cX10_plain 14 = .ok (.ldc 198, 2) := by decide +kernel
theorem dX10_plain_16 : decode cX10_plain 16 = .ok (.invokevirtual 110, 3) := by decide +kernel
theorem dX10_plain_19 : decode cX10_plain 19 = .ok (.ifCond .eq 7, 3) := by decide +kernel
theorem dX10_plain_22 : decode cX10_plain 22 = .ok (.iconst 1, 1) := by decide +kernel
theorem dX10_plain_23 : decode cX10_plain 23 = .ok (.goto 56, 3) := by decide +kernel
theorem dX10_plain_26 : decode cX10_plain 26 = .ok (.aload_n 0, 1) := by decide +kernel
theorem dX10_plain_27 : decode cX10_plain 27 = .ok (.ldc 200, 2) := by decide +kernel
theorem dX10_plain_29 : decode cX10_plain 29 = .ok (.invokevirtual 110, 3) := by decide +kernel
theorem dX10_plain_32 : decode cX10_plain 32 = .ok (.ifCond .eq 7, 3) := by decide +kernel
theorem dX10_plain_35 : decode cX10_plain 35 = .ok (.iconst 2, 1) := by decide +kernel
theorem dX10_plain_36 : decode cX10_plain 36 = .ok (.goto 43, 3) := by decide +kernel
theorem dX10_plain_39 : decode cX10_plain 39 = .ok (.aload_n 0, 1) := by decide +kernel
theorem dX10_plain_40 : decode cX10_plain 40 = .ok (.ldc 202, 2) := by decide +kernel
theorem dX10_plain_42 : decode cX10_plain 42 = .ok (.invokevirtual 110, 3) := by decide +kernel
theorem dX10_plain_45 : decode cX10_plain 45 = .ok (.ifCond .eq 7, 3) := by decide +kernel
theorem dX10_plain_48 : decode cX10_plain 48 = .ok (.iconst 3, 1) := by decide +kernel
theorem dX10_plain_49 : decode cX10_plain 49 = .ok (.goto 30, 3) := by decide +kernel
theorem dX10_plain_52 : decode cX10_plain 52 = .ok (.aload_n 0, 1) := by decide +kernel
theorem dX10_plain_53 : decode cX10_plain 53 = .ok (.ldc 204, 2) := by decide +kernel
theorem dX10_plain_55 : decode cX10_plain 55 = .ok (.invokevirtual 110, 3) := by decide +kernel
theorem dX10_plain_58 : decode cX10_plain 58 = .ok (.ifCond .eq 7, 3) := by decide +kernel
theorem dX10_plain_61 : decode cX10_plain 61 = .ok (.iconst 4, 1) := by decide +kernel
theorem dX10_plain_62 : decode cX10_plain 62 = .ok (.goto 17, 3) := by decide +kernel
theorem dX10_plain_65 : decode cX10_plain 65 = .ok (.aload_n 0, 1) := by decide +kernel
theorem dX10_plain_66 : decode cX10_plain 66 = .ok (.ldc 206, 2) := by decide +kernel
theorem dX10_plain_68 : decode cX10_plain 68 = .ok (.invokevirtual 110, 3) := by decide +kernel
theorem dX10_plain_71 : decode cX10_plain 71 = .ok (.ifCond .eq 7, 3) := by decide +kernel
theorem dX10_plain_74 : decode cX10_plain 74 = .ok (.iconst 5, 1) := by decide +kernel
theorem dX10_plain_75 : decode cX10_plain 75 = .ok (.goto 4, 3) := by decide +kernel
theorem dX10_plain_78 : decode cX10_plain 78 = .ok (.iconst (-1), 1) := by decide +kernel
theorem dX10_plain_79 : decode cX10_plain 79 = .ok (.istore_n 1, 1) := by decide +kernel
theorem dX10_plain_80 : decode cX10_plain 80 = .ok (.iload_n 1, 1) := by decide +kernel
theorem dX10_plain_81 : decode cX10_plain 81 = .ok (.iconst (-1), 1) := by decide +kernel
theorem dX10_plain_82 : decode cX10_plain 82 = .ok (.if_icmp .eq 12, 3) := by decide +kernel
theorem dX10_plain_85 : decode cX10_plain 85 = .ok (.aload_n 0, 1) := by decide +kernel
theorem dX10_plain_86 : decode cX10_plain 86 = .ok (.getfield 208, 3) := by decide +kernel
theorem dX10_plain_89 : decode cX10_plain 89 = .ok (.iload_n 1, 1) := by decide +kernel
theorem dX10_plain_90 : decode cX10_plain 90 = .ok (.invokestatic 117, 3) := by decide +kernel
theorem dX10_plain_93 : decode cX10_plain 93 = .ok (.ireturn, 1) := by decide +kernel
theorem dX10_plain_94 : decode cX10_plain 94 = .ok (.aload_n 0, 1) := by decide +kernel
theorem dX10_plain_95 : decode cX10_plain 95 = .ok (.invokevirtual 211, 3) := by decide +kernel
theorem dX10_plain_98 : decode cX10_plain 98 = .ok (.istore_n 2, 1) := by decide +kernel
theorem dX10_plain_99 : decode cX10_plain 99 = .ok (.aload_n 0, 1) := by decide +kernel
theorem dX10_plain_100 : decode cX10_plain 100 = .ok (.getfield 25, 3) := by decide +kernel
theorem dX10_plain_103 : decode cX10_plain 103 = .ok (.iconst (-1), 1) := by decide +kernel
theorem dX10_plain_104 : decode cX10_plain 104 = .ok (.if_icmp .eq 5, 3) := by decide +kernel
theorem dX10_plain_107 : decode cX10_plain 107 = .ok (.iconst 0, 1) := by decide +kernel
theorem dX10_plain_108 : decode cX10_plain 108 = .ok (.ireturn, 1) := by decide +kernel
theorem dX10_plain_109 : decode cX10_plain 109 = .ok (.aload_n 0, 1) := by decide +kernel
theorem dX10_plain_110 : decode cX10_plain 110 = .ok (.bipush 60, 2) := by decide +kernel
theorem dX10_plain_112 : decode cX10_plain 112 = .ok (.invokevirtual 167, 3) := by decide +kernel
theorem dX10_plain_115 : decode cX10_plain 115 = .ok (.istore_n 3, 1) := by decide +kernel
theorem dX10_plain_116 : decode cX10_plain 116 = .ok (.iload_n 3, 1) := by decide +kernel
theorem dX10_plain_117 : decode cX10_plain 117 = .ok (.ifCond .ne 22, 3) := by decide +kernel
theorem dX10_plain_120 : decode cX10_plain 120 = .ok (.aload_n 0, 1) := by decide +kernel
theorem dX10_plain_121 : decode cX10_plain 121 = .ok (.bipush 62, 2) := by decide +kernel
theorem dX10_plain_123 : decode cX10_plain 123 = .ok (.invokevirtual 167, 3) := by decide +kernel
theorem dX10_plain_126 : decode cX10_plain 126 = .ok (.ifCond .ne 13, 3) := by decide +kernel
theorem dX10_plain_129 : decode cX10_plain 129 = .ok (.aload_n 0, 1) := by decide +kernel
theorem dX10_plain_130 : decode cX10_plain 130 = .ok (.aload_n 0, 1) := by decide +kernel
theorem dX10_plain_131 : decode cX10_plain 131 = .ok (.getfield 80, 3) := by decide +kernel
theorem dX10_plain_134 : decode cX10_plain 134 = .ok (.invokevirtual 106, 3) := by decide +kernel
theorem dX10_plain_137 : decode cX10_plain 137 = .ok (.iconst 0, 1) := by decide +kernel
theorem dX10_plain_138 : decode cX10_plain 138 = .ok (.ireturn, 1) := by decide +kernel
theorem dX10_plain_139 : decode cX10_plain 139 = .ok (.aload_n 0, 1) := by decide +kernel
theorem dX10_plain_140 : decode cX10_plain 140 = .ok (.dup, 1) := by decide +kernel
theorem dX10_plain_141 : decode cX10_plain 141 = .ok (.getfield 80, 3) := by decide +kernel
theorem dX10_plain_144 : decode cX10_plain 144 = .ok (.iconst 1, 1) := by decide +kernel
theorem dX10_plain_145 : decode cX10_plain 145 = .ok (.iadd, 1) := by decide +kernel
theorem dX10_plain_146 : decode cX10_plain 146 = .ok (.putfield 80, 3) := by decide +kernel
theorem dX10_plain_149 : decode cX10_plain 149 = .ok (.aload_n 0, 1) := by decide +kernel
theorem dX10_plain_150 : decode cX10_plain 150 = .ok (.invokevirtual 211, 3) := by decide +kernel
theorem dX10_plain_153 : decode cX10_plain 153 = .ok (.istore 4, 2) := by decide +kernel
theorem dX10_plain_155 : decode cX10_plain 155 = .ok (.iload_n 3, 1) := by decide +kernel
theorem dX10_plain_156 : decode cX10_plain 156 = .ok (.ifCond .eq 17, 3) := by decide +kernel
theorem dX10_plain_159 : decode cX10_plain 159 = .ok (.iload_n 2, 1) := by decide +kernel
theorem dX10_plain_160 : decode cX10_plain 160 = .ok (.iload 4, 2) := by decide +kernel
theorem dX10_plain_162 : decode cX10_plain 162 = .ok (.if_icmp .ge 7, 3) := by decide +kernel
theorem dX10_plain_165 : decode cX10_plain 165 = .ok (.iconst 1, 1) := by decide +kernel
theorem dX10_plain_166 : decode cX10_plain 166 = .ok (.goto 18, 3) := by decide +kernel
theorem dX10_plain_169 : decode cX10_plain 169 = .ok (.iconst 0, 1) := by decide +kernel
theorem dX10_plain_170 : decode cX10_plain 170 = .ok (.goto 14, 3) := by decide +kernel
theorem dX10_plain_173 : decode cX10_plain 173 = .ok (.iload_n 2, 1) := by decide +kernel
theorem dX10_plain_174 : decode cX10_plain 174 = .ok (.iload 4, 2) := by decide +kernel
theorem dX10_plain_176 : decode cX10_plain 176 = .ok (.if_icmp .le 7, 3) := by decide +kernel
theorem dX10_plain_179 : decode cX10_plain 179 = .ok (.iconst 1, 1) := by decide +kernel
theorem dX10_plain_180 : decode cX10_plain 180 = .ok (.goto 4, 3) := by decide +kernel
theorem dX10_plain_183 : decode cX10_plain 183 = .ok (.iconst 0, 1) := by decide +kernel
theorem dX10_plain_184 : decode cX10_plain 184 = .ok (.ireturn, 1) := by decide +kernel
set_option maxRecDepth 20000 in
theorem ggX10_atom_X10_place : GoodIn wsX10_atom wsX10_place := goodIn_r _ [8, 3, 9, 10, 11, 7, 12, 13, 14, 15, 16, 17, 18, 19, 20, 117, 118, 119, 120, 121, 122, 123, 124, 125, 126, 127, 128, 129, 130, 131, 132, 133, 134, 135, 136, 137, 138, 139, 140, 141, 142, 143, 144] (by decide +kernel) (by decide +kernel)
set_option maxRecDepth 20000 in
theorem gX10_atom_X10_place : GoodIn wsX10_atom (wsV RX10 103 RX10 yX10_place wsX10_place) := goodIn_app (goodIn_of _ (by decide +kernel)) ggX10_atom_X10_place
set_option maxRecDepth 20000 in
theorem ggX10_atom_X10_says : GoodIn wsX10_atom wsX10_says := goodIn_r _ [24, 3, 13, 9, 10, 11, 7, 12, 14, 15, 16, 17, 18, 19, 20, 25, 26, 27, 28, 29, 30, 31, 32, 33, 34, 35, 36, 37, 38, 39, 40, 41, 42, 43, 44, 45, 46, 47, 48, 49, 50, 51, 52, 53, 54, 55, 56, 57, 58, 59, 60, 61, 62, 63, 64, 65, 66, 67, 68, 69, 70, 71, 72, 73, 74, 75, 76, 117, 118, 119, 120, 121, 122, 123, 124, 125, 126, 127, 128, 129, 130, 131, 132, 133, 134, 135, 136, 137, 138, 139, 140, 141, 142, 143, 144] (by decide +kernel) (by decide +kernel)
set_option maxRecDepth 20000 in
theorem gX10_atom_X10_says : GoodIn wsX10_atom (wsV RX10 110 RX10 yX10_says wsX10_says) := goodIn_app (goodIn_of _ (by decide +kernel)) ggX10_atom_X10_says
set_option maxRecDepth 20000 in
theorem ggX10_atom_X10_isSign : GoodIn wsX10_atom wsX10_isSign := goodIn_r _ [80, 3, 13, 9, 10, 11, 7, 12, 14, 15, 16, 17, 18, 19, 20, 117, 118, 119, 120, 121, 122, 123, 124, 125, 126, 127, 128, 129, 130, 131, 132, 133, 134, 135, 136, 137, 138, 139, 140, 141, 142, 143, 144] (by decide +kernel) (by decide +kernel)
set_option maxRecDepth 20000 in
theorem gX10_atom_X10_isSign : GoodIn wsX10_atom (wsV RX10 167 RX10 yX10_isSign wsX10_isSign) := goodIn_app (goodIn_of _ (by decide +kernel)) ggX10_atom_X10_isSign
set_option maxRecDepth 20000 in
theorem ggX10_atom_X10_plain : GoodIn wsX10_atom wsX10_plain := goodIn_r _ [84, 85, 1, 3, 21, 22, 23, 7, 24, 13, 9, 10, 11, 12, 14, 15, 16, 17, 18, 19, 20, 25, 26, 27, 28, 29, 30, 31, 32, 33, 34, 35, 36, 37, 38, 39, 40, 41, 42, 43, 44, 45, 46, 47, 48, 49, 50, 51, 52, 53, 54, 55, 56, 57, 58, 59, 60, 61, 62, 63, 64, 65, 66, 67, 68, 69, 70, 71, 72, 73, 74, 75, 76, 86, 87, 88, 89, 90, 91, 92, 93, 94, 95, 96, 97, 98, 99, 100, 101, 4, 5, 6, 8, 102, 103, 104, 105, 77, 78, 79, 80, 117, 118, 119, 120, 121, 122, 123, 124, 125, 126, 127, 128, 129, 130, 131, 132, 133, 134, 135, 136, 137, 138, 139, 140, 141, 142, 143, 144] (by decide +kernel) (by decide +kernel)
set_option maxRecDepth 20000 in
theorem gX10_atom_X10_plain : GoodIn wsX10_atom (wsV RX10 216 RX10 yX10_plain wsX10_plain) := goodIn_app (goodIn_of _ (by decide +kernel)) ggX10_atom_X10_plain
set_option maxRecDepth 20000 in
theorem ggX10_atom_X10_wrong : GoodIn wsX10_atom wsX10_wrong := goodIn_r _ [105, 1, 117, 118, 119, 120, 121, 122, 123, 124, 125, 126, 127, 128, 129, 130, 131, 132, 133, 134, 135, 136, 137, 138, 139, 140, 141, 142, 143, 144] (by decide +kernel) (by decide +kernel)
set_option maxRecDepth 20000 in
theorem gX10_atom_X10_wrong : GoodIn wsX10_atom (wsV RX10 106 RX10 yX10_wrong wsX10_wrong) := goodIn_app (goodIn_of _ (by decide +kernel)) ggX10_atom_X10_wrong
set_option maxRecDepth 20000 in
theorem ggX10_atom_X10_atom : GoodIn wsX10_atom wsX10_atom := goodIn_r _ [0, 1, 2, 3, 4, 5, 6, 7, 8, 9, 10, 11, 12, 13, 14, 15, 16, 17, 18, 19, 20, 21, 22, 23, 24, 25, 26, 27, 28, 29, 30, 31, 32, 33, 34, 35, 36, 37, 38, 39, 40, 41, 42, 43, 44, 45, 46, 47, 48, 49, 50, 51, 52, 53, 54, 55, 56, 57, 58, 59, 60, 61, 62, 63, 64, 65, 66, 67, 68, 69, 70, 71, 72, 73, 74, 75, 76, 77, 78, 79, 80, 81, 82, 83, 84, 85, 86, 87, 88, 89, 90, 91, 92, 93, 94, 95, 96, 97, 98, 99, 100, 101, 102, 103, 104, 105, 106, 107, 108, 109, 110, 111, 112, 113, 114, 115, 116, 117, 118, 119, 120, 121, 122, 123, 124, 125, 126, 127, 128, 129, 130, 131, 132, 133, 134, 135, 136, 137, 138, 139, 140, 141, 142, 143, 144] (by decide +kernel) (by decide +kernel)
set_option maxRecDepth 20000 in
theorem gX10_atom_X10_atom : GoodIn wsX10_atom (wsV RX10 220 RX10 yX10_atom wsX10_atom) := goodIn_app (goodIn_of _ (by decide +kernel)) ggX10_atom_X10_atom
set_option maxRecDepth 20000 in
theorem ggX10_atom_X10_some : GoodIn wsX10_atom wsX10_some := goodIn_r _ [113, 1, 114, 115, 116, 7, 21, 22, 23, 24, 3, 13, 9, 10, 11, 12, 14, 15, 16, 17, 18, 19, 20, 25, 26, 27, 28, 29, 30, 31, 32, 33, 34, 35, 36, 37, 38, 39, 40, 41, 42, 43, 44, 45, 46, 47, 48, 49, 50, 51, 52, 53, 54, 55, 56, 57, 58, 59, 60, 61, 62, 63, 64, 65, 66, 67, 68, 69, 70, 71, 72, 73, 74, 75, 76, 0, 2, 4, 5, 6, 8, 77, 78, 79, 80, 81, 82, 83, 84, 85, 86, 87, 88, 89, 90, 91, 92, 93, 94, 95, 96, 97, 98, 99, 100, 101, 102, 103, 104, 105, 106, 107, 108, 109, 110, 111, 112, 117, 118, 119, 120, 121, 122, 123, 124, 125, 126, 127, 128, 129, 130, 131, 132, 133, 134, 135, 136, 137, 138, 139, 140, 141, 142, 143, 144] (by decide +kernel) (by decide +kernel)
set_option maxRecDepth 20000 in
theorem gX10_atom_X10_some : GoodIn wsX10_atom (wsV RX10 223 RX10 yX10_some wsX10_some) := goodIn_app (goodIn_of _ (by decide +kernel)) ggX10_atom_X10_some
theorem dX10_atom_0 : decode cX10_atom 0 = .ok (.aload_n 0, 1) := by decide +kernel
theorem dX10_atom_1 : decode cX10_atom 1 = .ok (.getfield 25, 3) := by decide +kernel
theorem dX10_atom_4 : decode cX10_atom 4 = .ok (.iconst (-1), 1) := by decide +kernel
theorem dX10_atom_5 : decode cX10_atom 5 = .ok (.if_icmp .eq 5, 3) := by decide +kernel
theorem dX10_atom_8 : decode cX10_atom 8 = .ok (.iconst 0, 1) := by decide +kernel
theorem dX10_atom_9 : decode cX10_atom 9 = .ok (.ireturn, 1) := by decide +kernel
theorem dX10_atom_10 : decode cX10_atom 10 = .ok (.aload_n 0, 1) := by decide +kernel
theorem dX10_atom_11 : decode cX10_atom 11 = .ok (.invokevirtual 103, 3) := by decide +kernel
theorem dX10_atom_14 : decode cX10_atom 14 = .ok (.istore_n 1, 1) := by decide +kernel
theorem dX10_atom_15 : decode cX10_atom 15 = .ok (.aload_n 0, 1) := by decide +kernel
theorem dX10_atom_16 : decode cX10_atom 16 = .ok (.ldc 214, 2) := by decide +kernel
theorem dX10_atom_18 : decode cX10_atom 18 = .ok (.invokevirtual 110, 3) := by decide +kernel
theorem dX10_atom_21 : decode cX10_atom 21 = .ok (.istore_n 2, 1) := by decide +kernel
theorem dX10_atom_22 : decode cX10_atom 22 = .ok (.iload_n 2, 1) := by decide +kernel
theorem dX10_atom_23 : decode cX10_atom 23 = .ok (.ifCond .ne 17, 3) := by decide +kernel
theorem dX10_atom_26 : decode cX10_atom 26 = .ok (.aload_n 0, 1) := by decide +kernel
theorem dX10_atom_27 : decode cX10_atom 27 = .ok (.bipush 40, 2) := by decide +kernel
theorem dX10_atom_29 : decode cX10_atom 29 = .ok (.invokevirtual 167, 3) := by decide +kernel
theorem dX10_atom_32 : decode cX10_atom 32 = .ok (.ifCond .ne 8, 3) := by decide +kernel
theorem dX10_atom_35 : decode cX10_atom 35 = .ok (.aload_n 0, 1) := by decide +kernel
theorem dX10_atom_36 : decode cX10_atom 36 = .ok (.invokevirtual 216, 3) := by decide +kernel
theorem dX10_atom_39 : decode cX10_atom 39 = .ok (.ireturn, 1) := by decide +kernel
theorem dX10_atom_40 : decode cX10_atom 40 = .ok (.aload_n 0, 1) := by decide +kernel
theorem dX10_atom_41 : decode cX10_atom 41 = .ok (.getfield 158, 3) := by decide +kernel
theorem dX10_atom_44 : decode cX10_atom 44 = .ok (.bipush 6, 2) := by decide +kernel
theorem dX10_atom_46 : decode cX10_atom 46 = .ok (.if_icmp .ne 10, 3) := by decide +kernel
theorem dX10_atom_49 : decode cX10_atom 49 = .ok (.aload_n 0, 1) := by decide +kernel
theorem dX10_atom_50 : decode cX10_atom 50 = .ok (.iload_n 1, 1) := by decide +kernel
theorem dX10_atom_51 : decode cX10_atom 51 = .ok (.invokevirtual 106, 3) := by decide +kernel
theorem dX10_atom_54 : decode cX10_atom 54 = .ok (.iconst 0, 1) := by decide +kernel
theorem dX10_atom_55 : decode cX10_atom 55 = .ok (.ireturn, 1) := by decide +kernel
theorem dX10_atom_56 : decode cX10_atom 56 = .ok (.aload_n 0, 1) := by decide +kernel
theorem dX10_atom_57 : decode cX10_atom 57 = .ok (.dup, 1) := by decide +kernel
theorem dX10_atom_58 : decode cX10_atom 58 = .ok (.getfield 158, 3) := by decide +kernel
theorem dX10_atom_61 : decode cX10_atom 61 = .ok (.iconst 1, 1) := by decide +kernel
theorem dX10_atom_62 : decode cX10_atom 62 = .ok (.iadd, 1) := by decide +kernel
theorem dX10_atom_63 : decode cX10_atom 63 = .ok (.putfield 158, 3) := by decide +kernel
theorem dX10_atom_66 : decode cX10_atom 66 = .ok (.iconst 0, 1) := by decide +kernel
theorem dX10_atom_67 : decode cX10_atom 67 = .ok (.istore_n 3, 1) := by decide +kernel
theorem dX10_atom_68 : decode cX10_atom 68 = .ok (.iload_n 2, 1) := by decide +kernel
theorem dX10_atom_69 : decode cX10_atom 69 = .ok (.ifCond .eq 19, 3) := by decide +kernel
theorem dX10_atom_72 : decode cX10_atom 72 = .ok (.aload_n 0, 1) := by decide +kernel
theorem dX10_atom_73 : decode cX10_atom 73 = .ok (.invokevirtual 220, 3) := by decide +kernel
theorem dX10_atom_76 : decode cX10_atom 76 = .ok (.ifCond .ne 7, 3) := by decide +kernel
theorem dX10_atom_79 : decode cX10_atom 79 = .ok (.iconst 1, 1) := by decide +kernel
theorem dX10_atom_80 : decode cX10_atom 80 = .ok (.goto 4, 3) := by decide +kernel
theorem dX10_atom_83 : decode cX10_atom 83 = .ok (.iconst 0, 1) := by decide +kernel
theorem dX10_atom_84 : decode cX10_atom 84 = .ok (.istore_n 3, 1) := by decide +kernel
theorem dX10_atom_85 : decode cX10_atom 85 = .ok (.goto 53, 3) := by decide +kernel
theorem dX10_atom_88 : decode cX10_atom 88 = .ok (.aload_n 0, 1) := by decide +kernel
theorem dX10_atom_89 : decode cX10_atom 89 = .ok (.dup, 1) := by decide +kernel
theorem dX10_atom_90 : decode cX10_atom 90 = .ok (.getfield 80, 3) := by decide +kernel
theorem dX10_atom_93 : decode cX10_atom 93 = .ok (.iconst 1, 1) := by decide +kernel
theorem dX10_atom_94 : decode cX10_atom 94 = .ok (.iadd, 1) := by decide +kernel
theorem dX10_atom_95 : decode cX10_atom 95 = .ok (.putfield 80, 3) := by decide +kernel
theorem dX10_atom_98 : decode cX10_atom 98 = .ok (.aload_n 0, 1) := by decide +kernel
theorem dX10_atom_99 : decode cX10_atom 99 = .ok (.invokevirtual 223, 3) := by decide +kernel
theorem dX10_atom_102 : decode cX10_atom 102 = .ok (.istore_n 3, 1) := by decide +kernel
theorem dX10_atom_103 : decode cX10_atom 103 = .ok (.aload_n 0, 1) := by decide +kernel
theorem dX10_atom_104 : decode cX10_atom 104 = .ok (.getfield 25, 3) := by decide +kernel
theorem dX10_atom_107 : decode cX10_atom 107 = .ok (.iconst (-1), 1) := by decide +kernel
theorem dX10_atom_108 : decode cX10_atom 108 = .ok (.if_icmp .ne 20, 3) := by decide +kernel
theorem dX10_atom_111 : decode cX10_atom 111 = .ok (.aload_n 0, 1) := by decide +kernel
theorem dX10_atom_112 : decode cX10_atom 112 = .ok (.bipush 41, 2) := by decide +kernel
theorem dX10_atom_114 : decode cX10_atom 114 = .ok (.invokevirtual 167, 3) := by decide +kernel
theorem dX10_atom_117 : decode cX10_atom 117 = .ok (.ifCond .ne 11, 3) := by decide +kernel
theorem dX10_atom_120 : decode cX10_atom 120 = .ok (.aload_n 0, 1) := by decide +kernel
theorem dX10_atom_121 : decode cX10_atom 121 = .ok (.aload_n 0, 1) := by decide +kernel
theorem dX10_atom_122 : decode cX10_atom 122 = .ok (.getfield 80, 3) := by decide +kernel
theorem dX10_atom_125 : decode cX10_atom 125 = .ok (.invokevirtual 106, 3) := by decide +kernel
theorem dX10_atom_128 : decode cX10_atom 128 = .ok (.aload_n 0, 1) := by decide +kernel
theorem dX10_atom_129 : decode cX10_atom 129 = .ok (.dup, 1) := by decide +kernel
theorem dX10_atom_130 : decode cX10_atom 130 = .ok (.getfield 80, 3) := by decide +kernel
theorem dX10_atom_133 : decode cX10_atom 133 = .ok (.iconst 1, 1) := by decide +kernel
theorem dX10_atom_134 : decode cX10_atom 134 = .ok (.iadd, 1) := by decide +kernel
theorem dX10_atom_135 : decode cX10_atom 135 = .ok (.putfield 80, 3) := by decide +kernel
theorem dX10_atom_138 : decode cX10_atom 138 = .ok (.aload_n 0, 1) := by decide +kernel
theorem dX10_atom_139 : decode cX10_atom 139 = .ok (.dup, 1) := by decide +kernel
theorem dX10_atom_140 : decode cX10_atom 140 = .ok (.getfield 158, 3) := by decide +kernel
theorem dX10_atom_143 : decode cX10_atom 143 = .ok (.iconst 1, 1) := by decide +kernel
theorem dX10_atom_144 : decode cX10_atom 144 = .ok (.isub, 1) := by decide +kernel
theorem dX10_atom_145 : decode cX10_atom 145 = .ok (.putfield 158, 3) := by decide +kernel
theorem dX10_atom_148 : decode cX10_atom 148 = .ok (.iload_n 3, 1) := by decide +kernel
theorem dX10_atom_149 : decode cX10_atom 149 = .ok (.ireturn, 1) := by decide +kernel
set_option maxRecDepth 20000 in
theorem ggX10_every_X10_atom : GoodIn wsX10_every wsX10_atom := goodIn_r _ [75, 1, 76, 10, 77, 78, 79, 5, 80, 12, 13, 14, 15, 11, 16, 17, 18, 19, 20, 21, 22, 6, 7, 8, 9, 23, 24, 25, 26, 27, 28, 29, 30, 31, 32, 33, 34, 35, 36, 37, 38, 39, 40, 41, 42, 43, 44, 45, 46, 47, 48, 49, 50, 51, 52, 53, 54, 55, 56, 57, 58, 59, 60, 61, 62, 63, 64, 65, 66, 67, 68, 69, 70, 71, 72, 73, 74, 81, 82, 83, 84, 85, 86, 87, 88, 89, 90, 91, 92, 93, 94, 95, 96, 97, 98, 99, 100, 101, 102, 103, 104, 105, 106, 107, 108, 109, 2, 3, 4, 110, 111, 112, 0, 113, 114, 115, 116, 117, 118, 119, 120, 121, 122, 123, 124, 125, 126, 127, 128, 129, 130, 131, 132, 133, 134, 135, 136, 137, 138, 139, 140, 141, 142, 143, 144] (by decide +kernel) (by decide +kernel)
set_option maxRecDepth 20000 in
theorem gX10_every_X10_atom : GoodIn wsX10_every (wsV RX10 220 RX10 yX10_atom wsX10_atom) := goodIn_app (goodIn_of _ (by decide +kernel)) ggX10_every_X10_atom
set_option maxRecDepth 20000 in
theorem ggX10_every_X10_says : GoodIn wsX10_every wsX10_says := goodIn_r _ [9, 10, 11, 12, 13, 14, 5, 15, 16, 17, 18, 19, 20, 21, 22, 23, 24, 25, 26, 27, 28, 29, 30, 31, 32, 33, 34, 35, 36, 37, 38, 39, 40, 41, 42, 43, 44, 45, 46, 47, 48, 49, 50, 51, 52, 53, 54, 55, 56, 57, 58, 59, 60, 61, 62, 63, 64, 65, 66, 67, 68, 69, 70, 71, 72, 73, 74, 117, 118, 119, 120, 121, 122, 123, 124, 125, 126, 127, 128, 129, 130, 131, 132, 133, 134, 135, 136, 137, 138, 139, 140, 141, 142, 143, 144] (by decide +kernel) (by decide +kernel)
set_option maxRecDepth 20000 in
theorem gX10_every_X10_says : GoodIn wsX10_every (wsV RX10 110 RX10 yX10_says wsX10_says) := goodIn_app (goodIn_of _ (by decide +kernel)) ggX10_every_X10_says
theorem dX10_every_0 : decode cX10_every 0 = .ok (.aload_n 0, 1) := by decide +kernel
theorem dX10_every_1 : decode cX10_every 1 = .ok (.invokevirtual 220, 3) := by decide +kernel
theorem dX10_every_4 : decode cX10_every 4 = .ok (.istore_n 1, 1) := by decide +kernel
theorem dX10_every_5 : decode cX10_every 5 = .ok (.aload_n 0, 1) := by decide +kernel
theorem dX10_every_6 : decode cX10_every 6 = .ok (.getfield 25, 3) := by decide +kernel
theorem dX10_every_9 : decode cX10_every 9 = .ok (.iconst (-1), 1) := by decide +kernel
theorem dX10_every_10 : decode cX10_every 10 = .ok (.if_icmp .ne 34, 3) := by decide +kernel
theorem dX10_every_13 : decode cX10_every 13 = .ok (.aload_n 0, 1) := by decide +kernel
theorem dX10_every_14 : decode cX10_every 14 = .ok (.ldc 226, 2) := by decide +kernel
theorem dX10_every_16 : decode cX10_every 16 = .ok (.invokevirtual 110, 3) := by decide +kernel
theorem dX10_every_19 : decode cX10_every 19 = .ok (.ifCond .eq 25, 3) := by decide +kernel
theorem dX10_every_22 : decode cX10_every 22 = .ok (.aload_n 0, 1) := by decide +kernel
theorem dX10_every_23 : decode cX10_every 23 = .ok (.invokevirtual 220, 3) := by decide +kernel
theorem dX10_every_26 : decode cX10_every 26 = .ok (.istore_n 2, 1) := by decide +kernel
theorem dX10_every_27 : decode cX10_every 27 = .ok (.iload_n 1, 1) := by decide +kernel
theorem dX10_every_28 : decode cX10_every 28 = .ok (.ifCond .eq 11, 3) := by decide +kernel
theorem dX10_every_31 : decode cX10_every 31 = .ok (.iload_n 2, 1) := by decide +kernel
theorem dX10_every_32 : decode cX10_every 32 = .ok (.ifCond .eq 7, 3) := by decide +kernel
theorem dX10_every_35 : decode cX10_every 35 = .ok (.iconst 1, 1) := by decide +kernel
theorem dX10_every_36 : decode cX10_every 36 = .ok (.goto 4, 3) := by decide +kernel
theorem dX10_every_39 : decode cX10_every 39 = .ok (.iconst 0, 1) := by decide +kernel
theorem dX10_every_40 : decode cX10_every 40 = .ok (.istore_n 1, 1) := by decide +kernel
theorem dX10_every_41 : decode cX10_every 41 = .ok (.goto (-36), 3) := by decide +kernel
theorem dX10_every_44 : decode cX10_every 44 = .ok (.iload_n 1, 1) := by decide +kernel
theorem dX10_every_45 : decode cX10_every 45 = .ok (.ireturn, 1) := by decide +kernel
set_option maxRecDepth 20000 in
theorem ggX10_some_X10_every : GoodIn wsX10_some wsX10_every := goodIn_r _ [116, 1, 110, 111, 112, 5, 6, 7, 8, 9, 10, 11, 12, 13, 14, 15, 16, 17, 18, 19, 20, 21, 22, 23, 24, 25, 26, 27, 28, 29, 30, 31, 32, 33, 34, 35, 36, 37, 38, 39, 40, 41, 42, 43, 44, 45, 46, 47, 48, 49, 50, 51, 52, 53, 54, 55, 56, 57, 58, 59, 60, 61, 62, 63, 64, 65, 66, 67, 68, 69, 70, 71, 72, 73, 74, 75, 76, 77, 78, 79, 80, 81, 82, 83, 84, 85, 86, 87, 88, 89, 90, 91, 92, 93, 94, 95, 96, 97, 98, 99, 100, 101, 102, 103, 104, 105, 106, 107, 108, 109, 113, 114, 115, 0, 2, 3, 4, 117, 118, 119, 120, 121, 122, 123, 124, 125, 126, 127, 128, 129, 130, 131, 132, 133, 134, 135, 136, 137, 138, 139, 140, 141, 142, 143, 144] (by decide +kernel) (by decide +kernel)
set_option maxRecDepth 20000 in
theorem gX10_some_X10_every : GoodIn wsX10_some (wsV RX10 228 RX10 yX10_every wsX10_every) := goodIn_app (goodIn_of _ (by decide +kernel)) ggX10_some_X10_every
set_option maxRecDepth 20000 in
theorem ggX10_some_X10_says : GoodIn wsX10_some wsX10_says := goodIn_r _ [9, 10, 11, 12, 13, 14, 5, 15, 16, 17, 18, 19, 20, 21, 22, 23, 24, 25, 26, 27, 28, 29, 30, 31, 32, 33, 34, 35, 36, 37, 38, 39, 40, 41, 42, 43, 44, 45, 46, 47, 48, 49, 50, 51, 52, 53, 54, 55, 56, 57, 58, 59, 60, 61, 62, 63, 64, 65, 66, 67, 68, 69, 70, 71, 72, 73, 74, 117, 118, 119, 120, 121, 122, 123, 124, 125, 126, 127, 128, 129, 130, 131, 132, 133, 134, 135, 136, 137, 138, 139, 140, 141, 142, 143, 144] (by decide +kernel) (by decide +kernel)
set_option maxRecDepth 20000 in
theorem gX10_some_X10_says : GoodIn wsX10_some (wsV RX10 110 RX10 yX10_says wsX10_says) := goodIn_app (goodIn_of _ (by decide +kernel)) ggX10_some_X10_says
theorem dX10_some_0 : decode cX10_some 0 = .ok (.aload_n 0, 1) := by decide +kernel
theorem dX10_some_1 : decode cX10_some 1 = .ok (.invokevirtual 228, 3) := by decide +kernel
theorem dX10_some_4 : decode cX10_some 4 = .ok (.istore_n 1, 1) := by decide +kernel
theorem dX10_some_5 : decode cX10_some 5 = .ok (.aload_n 0, 1) := by decide +kernel
theorem dX10_some_6 : decode cX10_some 6 = .ok (.getfield 25, 3) := by decide +kernel
theorem dX10_some_9 : decode cX10_some 9 = .ok (.iconst (-1), 1) := by decide +kernel
theorem dX10_some_10 : decode cX10_some 10 = .ok (.if_icmp .ne 34, 3) := by decide +kernel
theorem dX10_some_13 : decode cX10_some 13 = .ok (.aload_n 0, 1) := by decide +kernel
theorem dX10_some_14 : decode cX10_some 14 = .ok (.ldc 231, 2) := by decide +kernel
theorem dX10_some_16 : decode cX10_some 16 = .ok (.invokevirtual 110, 3) := by decide +kernel
theorem dX10_some_19 : decode cX10_some 19 = .ok (.ifCond .eq 25, 3) := by decide +kernel
theorem dX10_some_22 : decode cX10_some 22 = .ok (.aload_n 0, 1) := by decide +kernel
theorem dX10_some_23 : decode cX10_some 23 = .ok (.invokevirtual 228, 3) := by decide +kernel
theorem dX10_some_26 : decode cX10_some 26 = .ok (.istore_n 2, 1) := by decide +kernel
theorem dX10_some_27 : decode cX10_some 27 = .ok (.iload_n 1, 1) := by decide +kernel
theorem dX10_some_28 : decode cX10_some 28 = .ok (.ifCond .ne 7, 3) := by decide +kernel
theorem dX10_some_31 : decode cX10_some 31 = .ok (.iload_n 2, 1) := by decide +kernel
theorem dX10_some_32 : decode cX10_some 32 = .ok (.ifCond .eq 7, 3) := by decide +kernel
theorem dX10_some_35 : decode cX10_some 35 = .ok (.iconst 1, 1) := by decide +kernel
theorem dX10_some_36 : decode cX10_some 36 = .ok (.goto 4, 3) := by decide +kernel
theorem dX10_some_39 : decode cX10_some 39 = .ok (.iconst 0, 1) := by decide +kernel
theorem dX10_some_40 : decode cX10_some 40 = .ok (.istore_n 1, 1) := by decide +kernel
theorem dX10_some_41 : decode cX10_some 41 = .ok (.goto (-36), 3) := by decide +kernel
theorem dX10_some_44 : decode cX10_some 44 = .ok (.iload_n 1, 1) := by decide +kernel
theorem dX10_some_45 : decode cX10_some 45 = .ok (.ireturn, 1) := by decide +kernel
set_option maxRecDepth 20000 in
theorem ggX10_lawLine_X10_says : GoodIn wsX10_lawLine wsX10_says := goodIn_r _ [9, 1, 10, 11, 12, 13, 8, 14, 15, 16, 17, 18, 19, 20, 21, 22, 23, 24, 25, 26, 27, 28, 29, 30, 31, 32, 33, 34, 35, 36, 37, 38, 39, 40, 41, 42, 43, 44, 45, 46, 47, 48, 49, 50, 51, 52, 53, 54, 55, 56, 57, 58, 59, 60, 61, 62, 63, 64, 65, 66, 67, 68, 69, 70, 71, 72, 73, 120, 121, 122, 123, 124, 125, 126, 127, 128, 129, 130, 131, 132, 133, 134, 135, 136, 137, 138, 139, 140, 141, 142, 143, 144, 145, 146, 147] (by decide +kernel) (by decide +kernel)
set_option maxRecDepth 20000 in
theorem gX10_lawLine_X10_says : GoodIn wsX10_lawLine (wsV RX10 110 RX10 yX10_says wsX10_says) := goodIn_app (goodIn_of _ (by decide +kernel)) ggX10_lawLine_X10_says
set_option maxRecDepth 20000 in
theorem ggX10_lawLine_X10_wrong : GoodIn wsX10_lawLine wsX10_wrong := goodIn_r _ [77, 2, 120, 121, 122, 123, 124, 125, 126, 127, 128, 129, 130, 131, 132, 133, 134, 135, 136, 137, 138, 139, 140, 141, 142, 143, 144, 145, 146, 147] (by decide +kernel) (by decide +kernel)
set_option maxRecDepth 20000 in
theorem gX10_lawLine_X10_wrong : GoodIn wsX10_lawLine (wsV RX10 106 RX10 yX10_wrong wsX10_wrong) := goodIn_app (goodIn_of _ (by decide +kernel)) ggX10_lawLine_X10_wrong
set_option maxRecDepth 20000 in
theorem ggX10_lawLine_X10_figures : GoodIn wsX10_lawLine wsX10_figures := goodIn_r _ [81, 2, 1, 10, 82, 83, 84, 8, 85, 11, 12, 13, 14, 15, 16, 17, 18, 19, 20, 21, 22, 23, 24, 74, 75, 76, 77, 120, 121, 122, 123, 124, 125, 126, 127, 128, 129, 130, 131, 132, 133, 134, 135, 136, 137, 138, 139, 140, 141, 142, 143, 144, 145, 146, 147] (by decide +kernel) (by decide +kernel)
set_option maxRecDepth 20000 in
theorem gX10_lawLine_X10_figures : GoodIn wsX10_lawLine (wsV RX10 114 RX10 yX10_figures wsX10_figures) := goodIn_app (goodIn_of _ (by decide +kernel)) ggX10_lawLine_X10_figures
set_option maxRecDepth 20000 in
theorem ggX10_lawLine_X10_some : GoodIn wsX10_lawLine wsX10_some := goodIn_r _ [89, 2, 90, 91, 92, 8, 5, 6, 7, 9, 1, 10, 11, 12, 13, 14, 15, 16, 17, 18, 19, 20, 21, 22, 23, 24, 25, 26, 27, 28, 29, 30, 31, 32, 33, 34, 35, 36, 37, 38, 39, 40, 41, 42, 43, 44, 45, 46, 47, 48, 49, 50, 51, 52, 53, 54, 55, 56, 57, 58, 59, 60, 61, 62, 63, 64, 65, 66, 67, 68, 69, 70, 71, 72, 73, 93, 94, 82, 83, 84, 85, 95, 96, 97, 98, 99, 100, 101, 102, 103, 104, 105, 106, 107, 108, 109, 110, 111, 112, 113, 114, 115, 78, 79, 80, 81, 74, 75, 76, 77, 116, 117, 118, 86, 87, 88, 119, 120, 121, 122, 123, 124, 125, 126, 127, 128, 129, 130, 131, 132, 133, 134, 135, 136, 137, 138, 139, 140, 141, 142, 143, 144, 145, 146, 147] (by decide +kernel) (by decide +kernel)
set_option maxRecDepth 20000 in
theorem gX10_lawLine_X10_some : GoodIn wsX10_lawLine (wsV RX10 223 RX10 yX10_some wsX10_some) := goodIn_app (goodIn_of _ (by decide +kernel)) ggX10_lawLine_X10_some
theorem dX10_lawLine_0 : decode cX10_lawLine 0 = .ok (.aload_n 0, 1) := by decide +kernel
theorem dX10_lawLine_1 : decode cX10_lawLine 1 = .ok (.ldc 233, 2) := by decide +kernel
theorem dX10_lawLine_3 : decode cX10_lawLine 3 = .ok (.invokevirtual 110, 3) := by decide +kernel
theorem dX10_lawLine_6 : decode cX10_lawLine 6 = .ok (.istore_n 1, 1) := by decide +kernel
theorem dX10_lawLine_7 : decode cX10_lawLine 7 = .ok (.iload_n 1, 1) := by decide +kernel
theorem dX10_lawLine_8 : decode cX10_lawLine 8 = .ok (.ifCond .ne 21, 3) := by decide +kernel
theorem dX10_lawLine_11 : decode cX10_lawLine 11 = .ok (.aload_n 0, 1) := by decide +kernel
theorem dX10_lawLine_12 : decode cX10_lawLine 12 = .ok (.ldc 235, 2) := by decide +kernel
theorem dX10_lawLine_14 : decode cX10_lawLine 14 = .ok (.invokevirtual 110, 3) := by decide +kernel
theorem dX10_lawLine_17 : decode cX10_lawLine 17 = .ok (.ifCond .ne 12, 3) := by decide +kernel
theorem dX10_lawLine_20 : decode cX10_lawLine 20 = .ok (.aload_n 0, 1) := by decide +kernel
theorem dX10_lawLine_21 : decode cX10_lawLine 21 = .ok (.aload_n 0, 1) := by decide +kernel
theorem dX10_lawLine_22 : decode cX10_lawLine 22 = .ok (.getfield 80, 3) := by decide +kernel
theorem dX10_lawLine_25 : decode cX10_lawLine 25 = .ok (.invokevirtual 106, 3) := by decide +kernel
theorem dX10_lawLine_28 : decode cX10_lawLine 28 = .ok (.return_, 1) := by decide +kernel
theorem dX10_lawLine_29 : decode cX10_lawLine 29 = .ok (.aload_n 0, 1) := by decide +kernel
theorem dX10_lawLine_30 : decode cX10_lawLine 30 = .ok (.ldc 237, 2) := by decide +kernel
theorem dX10_lawLine_32 : decode cX10_lawLine 32 = .ok (.invokevirtual 110, 3) := by decide +kernel
theorem dX10_lawLine_35 : decode cX10_lawLine 35 = .ok (.istore_n 2, 1) := by decide +kernel
theorem dX10_lawLine_36 : decode cX10_lawLine 36 = .ok (.iload_n 2, 1) := by decide +kernel
theorem dX10_lawLine_37 : decode cX10_lawLine 37 = .ok (.ifCond .eq 7, 3) := by decide +kernel
theorem dX10_lawLine_40 : decode cX10_lawLine 40 = .ok (.iconst (-1), 1) := by decide +kernel
theorem dX10_lawLine_41 : decode cX10_lawLine 41 = .ok (.goto 10, 3) := by decide +kernel
theorem dX10_lawLine_44 : decode cX10_lawLine 44 = .ok (.aload_n 0, 1) := by decide +kernel
theorem dX10_lawLine_45 : decode cX10_lawLine 45 = .ok (.iconst 0, 1) := by decide +kernel
theorem dX10_lawLine_46 : decode cX10_lawLine 46 = .ok (.bipush 8, 2) := by decide +kernel
theorem dX10_lawLine_48 : decode cX10_lawLine 48 = .ok (.invokevirtual 114, 3) := by decide +kernel
theorem dX10_lawLine_51 : decode cX10_lawLine 51 = .ok (.istore_n 3, 1) := by decide +kernel
theorem dX10_lawLine_52 : decode cX10_lawLine 52 = .ok (.aload_n 0, 1) := by decide +kernel
theorem dX10_lawLine_53 : decode cX10_lawLine 53 = .ok (.iconst 0, 1) := by decide +kernel
theorem dX10_lawLine_54 : decode cX10_lawLine 54 = .ok (.bipush 99, 2) := by decide +kernel
theorem dX10_lawLine_56 : decode cX10_lawLine 56 = .ok (.invokevirtual 114, 3) := by decide +kernel
theorem dX10_lawLine_59 : decode cX10_lawLine 59 = .ok (.istore 4, 2) := by decide +kernel
theorem dX10_lawLine_61 : decode cX10_lawLine 61 = .ok (.aload_n 0, 1) := by decide +kernel
theorem dX10_lawLine_62 : decode cX10_lawLine 62 = .ok (.getfield 25, 3) := by decide +kernel
theorem dX10_lawLine_65 : decode cX10_lawLine 65 = .ok (.iconst (-1), 1) := by decide +kernel
theorem dX10_lawLine_66 : decode cX10_lawLine 66 = .ok (.if_icmp .eq 4, 3) := by decide +kernel
theorem dX10_lawLine_69 : decode cX10_lawLine 69 = .ok (.return_, 1) := by decide +kernel
theorem dX10_lawLine_70 : decode cX10_lawLine 70 = .ok (.aload_n 0, 1) := by decide +kernel
theorem dX10_lawLine_71 : decode cX10_lawLine 71 = .ok (.ldc 239, 2) := by decide +kernel
theorem dX10_lawLine_73 : decode cX10_lawLine 73 = .ok (.invokevirtual 110, 3) := by decide +kernel
theorem dX10_lawLine_76 : decode cX10_lawLine 76 = .ok (.ifCond .eq 10, 3) := by decide +kernel
theorem dX10_lawLine_79 : decode cX10_lawLine 79 = .ok (.aload_n 0, 1) := by decide +kernel
theorem dX10_lawLine_80 : decode cX10_lawLine 80 = .ok (.invokevirtual 223, 3) := by decide +kernel
theorem dX10_lawLine_83 : decode cX10_lawLine 83 = .ok (.ifCond .eq 7, 3) := by decide +kernel
theorem dX10_lawLine_86 : decode cX10_lawLine 86 = .ok (.iconst 1, 1) := by decide +kernel
theorem dX10_lawLine_87 : decode cX10_lawLine 87 = .ok (.goto 4, 3) := by decide +kernel
theorem dX10_lawLine_90 : decode cX10_lawLine 90 = .ok (.iconst 0, 1) := by decide +kernel
theorem dX10_lawLine_91 : decode cX10_lawLine 91 = .ok (.istore 5, 2) := by decide +kernel
theorem dX10_lawLine_93 : decode cX10_lawLine 93 = .ok (.aload_n 0, 1) := by decide +kernel
theorem dX10_lawLine_94 : decode cX10_lawLine 94 = .ok (.getfield 25, 3) := by decide +kernel
theorem dX10_lawLine_97 : decode cX10_lawLine 97 = .ok (.iconst (-1), 1) := by decide +kernel
theorem dX10_lawLine_98 : decode cX10_lawLine 98 = .ok (.if_icmp .ne 20, 3) := by decide +kernel
theorem dX10_lawLine_101 : decode cX10_lawLine 101 = .ok (.iload 5, 2) := by decide +kernel
theorem dX10_lawLine_103 : decode cX10_lawLine 103 = .ok (.ifCond .eq 15, 3) := by decide +kernel
theorem dX10_lawLine_106 : decode cX10_lawLine 106 = .ok (.iload_n 2, 1) := by decide +kernel
theorem dX10_lawLine_107 : decode cX10_lawLine 107 = .ok (.ifCond .ne 12, 3) := by decide +kernel
theorem dX10_lawLine_110 : decode cX10_lawLine 110 = .ok (.iload_n 3, 1) := by decide +kernel
theorem dX10_lawLine_111 : decode cX10_lawLine 111 = .ok (.aload_n 0, 1) := by decide +kernel
theorem dX10_lawLine_112 : decode cX10_lawLine 112 = .ok (.getfield 241, 3) := by decide +kernel
theorem dX10_lawLine_115 : decode cX10_lawLine 115 = .ok (.if_icmp .eq 4, 3) := by decide +kernel
theorem dX10_lawLine_118 : decode cX10_lawLine 118 = .ok (.return_, 1) := by decide +kernel
theorem dX10_lawLine_119 : decode cX10_lawLine 119 = .ok (.aload_n 0, 1) := by decide +kernel
theorem dX10_lawLine_120 : decode cX10_lawLine 120 = .ok (.dup, 1) := by decide +kernel
theorem dX10_lawLine_121 : decode cX10_lawLine 121 = .ok (.getfield 244, 3) := by decide +kernel
theorem dX10_lawLine_124 : decode cX10_lawLine 124 = .ok (.iload_n 1, 1) := by decide +kernel
theorem dX10_lawLine_125 : decode cX10_lawLine 125 = .ok (.ifCond .eq 8, 3) := by decide +kernel
theorem dX10_lawLine_128 : decode cX10_lawLine 128 = .ok (.iload 4, 2) := by decide +kernel
theorem dX10_lawLine_130 : decode cX10_lawLine 130 = .ok (.goto 6, 3) := by decide +kernel
theorem dX10_lawLine_133 : decode cX10_lawLine 133 = .ok (.iload 4, 2) := by decide +kernel
theorem dX10_lawLine_135 : decode cX10_lawLine 135 = .ok (.ineg, 1) := by decide +kernel
theorem dX10_lawLine_136 : decode cX10_lawLine 136 = .ok (.iadd, 1) := by decide +kernel
theorem dX10_lawLine_137 : decode cX10_lawLine 137 = .ok (.putfield 244, 3) := by decide +kernel
theorem dX10_lawLine_140 : decode cX10_lawLine 140 = .ok (.return_, 1) := by decide +kernel
set_option maxRecDepth 20000 in
theorem ggX10_law_X10_begins : GoodIn wsX10_law wsX10_begins := goodIn_r _ [11, 1, 12, 13, 4, 14, 15, 163, 164, 165, 166, 167, 168, 169, 170, 171, 172, 173, 174, 175, 176, 177, 178, 179, 180, 181, 182, 183, 184, 185, 186, 187, 188, 189, 190] (by decide +kernel) (by decide +kernel)
set_option maxRecDepth 20000 in
theorem gX10_law_X10_begins : GoodIn wsX10_law (wsV RX10 174 RX10 yX10_begins wsX10_begins) := goodIn_app (goodIn_of _ (by decide +kernel)) ggX10_law_X10_begins
set_option maxRecDepth 20000 in
theorem ggX10_law_X10_read : GoodIn wsX10_law wsX10_read := goodIn_r _ [19, 14, 4, 1, 20, 21, 22, 10, 23, 24, 25, 26, 27, 12, 5, 3, 28, 29, 30, 31, 32, 33, 34, 35, 36, 37, 38, 39, 40, 41, 42, 43, 44, 45, 46, 47, 48, 49, 50, 51, 52, 53, 54, 55, 56, 57, 58, 59, 60, 61, 62, 63, 64, 65, 66, 67, 68, 69, 70, 71, 72, 73, 74, 75, 76, 77, 78, 79, 80, 81, 82, 83, 84, 85, 86, 87, 88, 89, 90, 91, 92, 93, 94, 95, 96, 97, 98, 99, 100, 101, 102, 103, 104, 105, 106, 107, 108, 109, 15, 110, 111, 112, 113, 114, 115, 116, 117, 118, 119, 120, 121, 122, 123, 124, 125, 126, 127, 128, 129, 130, 131, 132, 133, 134, 135, 136, 137, 138, 139, 140, 141, 142, 143, 144, 145, 146, 147, 148, 149, 150, 151, 152, 153, 154, 155, 156, 157, 158, 159, 160, 161, 162, 163, 164, 165, 166, 167, 168, 169, 170, 171, 172, 173, 174, 175, 176, 177, 178, 179, 180, 181, 182, 183, 184, 185, 186, 187, 188, 189, 190] (by decide +kernel) (by decide +kernel)
set_option maxRecDepth 20000 in
theorem gX10_law_X10_read : GoodIn wsX10_law (wsV RX10 177 RX10 yX10_read wsX10_read) := goodIn_app (goodIn_of _ (by decide +kernel)) ggX10_law_X10_read
theorem dX10_law_0 : decode cX10_law 0 = .ok (.aload_n 0, 1) := by decide +kernel
theorem dX10_law_1 : decode cX10_law 1 = .ok (.invokevirtual 174, 3) := by decide +kernel
theorem dX10_law_4 : decode cX10_law 4 = .ok (.aload_n 0, 1) := by decide +kernel
theorem dX10_law_5 : decode cX10_law 5 = .ok (.iconst 1, 1) := by decide +kernel
theorem dX10_law_6 : decode cX10_law 6 = .ok (.invokevirtual 177, 3) := by decide +kernel
theorem dX10_law_9 : decode cX10_law 9 = .ok (.istore_n 1, 1) := by decide +kernel
theorem dX10_law_10 : decode cX10_law 10 = .ok (.aload_n 0, 1) := by decide +kernel
theorem dX10_law_11 : decode cX10_law 11 = .ok (.aload_n 0, 1) := by decide +kernel
theorem dX10_law_12 : decode cX10_law 12 = .ok (.getfield 25, 3) := by decide +kernel
theorem dX10_law_15 : decode cX10_law 15 = .ok (.iconst (-1), 1) := by decide +kernel
theorem dX10_law_16 : decode cX10_law 16 = .ok (.if_icmp .eq 7, 3) := by decide +kernel
theorem dX10_law_19 : decode cX10_law 19 = .ok (.iconst 1, 1) := by decide +kernel
theorem dX10_law_20 : decode cX10_law 20 = .ok (.goto 4, 3) := by decide +kernel
theorem dX10_law_23 : decode cX10_law 23 = .ok (.iconst 0, 1) := by decide +kernel
theorem dX10_law_24 : decode cX10_law 24 = .ok (.putfield 63, 3) := by decide +kernel
theorem dX10_law_27 : decode cX10_law 27 = .ok (.aload_n 0, 1) := by decide +kernel
theorem dX10_law_28 : decode cX10_law 28 = .ok (.getfield 63, 3) := by decide +kernel
theorem dX10_law_31 : decode cX10_law 31 = .ok (.ifCond .le 5, 3) := by decide +kernel
theorem dX10_law_34 : decode cX10_law 34 = .ok (.iconst 0, 1) := by decide +kernel
theorem dX10_law_35 : decode cX10_law 35 = .ok (.ireturn, 1) := by decide +kernel
theorem dX10_law_36 : decode cX10_law 36 = .ok (.aload_n 0, 1) := by decide +kernel
theorem dX10_law_37 : decode cX10_law 37 = .ok (.getfield 7, 3) := by decide +kernel
theorem dX10_law_40 : decode cX10_law 40 = .ok (.iconst 1, 1) := by decide +kernel
theorem dX10_law_41 : decode cX10_law 41 = .ok (.iload_n 1, 1) := by decide +kernel
theorem dX10_law_42 : decode cX10_law 42 = .ok (.iastore, 1) := by decide +kernel
theorem dX10_law_43 : decode cX10_law 43 = .ok (.aload_n 0, 1) := by decide +kernel
theorem dX10_law_44 : decode cX10_law 44 = .ok (.getfield 7, 3) := by decide +kernel
theorem dX10_law_47 : decode cX10_law 47 = .ok (.iconst 2, 1) := by decide +kernel
theorem dX10_law_48 : decode cX10_law 48 = .ok (.aload_n 0, 1) := by decide +kernel
theorem dX10_law_49 : decode cX10_law 49 = .ok (.getfield 83, 3) := by decide +kernel
theorem dX10_law_52 : decode cX10_law 52 = .ok (.iastore, 1) := by decide +kernel
theorem dX10_law_53 : decode cX10_law 53 = .ok (.iconst 0, 1) := by decide +kernel
theorem dX10_law_54 : decode cX10_law 54 = .ok (.istore_n 2, 1) := by decide +kernel
theorem dX10_law_55 : decode cX10_law 55 = .ok (.iload_n 2, 1) := by decide +kernel
theorem dX10_law_56 : decode cX10_law 56 = .ok (.aload_n 0, 1) := by decide +kernel
theorem dX10_law_57 : decode cX10_law 57 = .ok (.getfield 83, 3) := by decide +kernel
theorem dX10_law_60 : decode cX10_law 60 = .ok (.if_icmp .ge 25, 3) := by decide +kernel
theorem dX10_law_63 : decode cX10_law 63 = .ok (.aload_n 0, 1) := by decide +kernel
theorem dX10_law_64 : decode cX10_law 64 = .ok (.getfield 7, 3) := by decide +kernel
theorem dX10_law_67 : decode cX10_law 67 = .ok (.sipush 407, 3) := by decide +kernel
theorem dX10_law_70 : decode cX10_law 70 = .ok (.iload_n 2, 1) := by decide +kernel
theorem dX10_law_71 : decode cX10_law 71 = .ok (.iadd, 1) := by decide +kernel
theorem dX10_law_72 : decode cX10_law 72 = .ok (.aload_n 0, 1) := by decide +kernel
theorem dX10_law_73 : decode cX10_law 73 = .ok (.getfield 22, 3) := by decide +kernel
theorem dX10_law_76 : decode cX10_law 76 = .ok (.iload_n 2, 1) := by decide +kernel
theorem dX10_law_77 : decode cX10_law 77 = .ok (.iaload, 1) := by decide +kernel
theorem dX10_law_78 : decode cX10_law 78 = .ok (.iastore, 1) := by decide +kernel
theorem dX10_law_79 : decode cX10_law 79 = .ok (.iinc 2 1, 3) := by decide +kernel
theorem dX10_law_82 : decode cX10_law 82 = .ok (.goto (-27), 3) := by decide +kernel
theorem dX10_law_85 : decode cX10_law 85 = .ok (.aload_n 0, 1) := by decide +kernel
theorem dX10_law_86 : decode cX10_law 86 = .ok (.iconst 0, 1) := by decide +kernel
theorem dX10_law_87 : decode cX10_law 87 = .ok (.putfield 184, 3) := by decide +kernel
theorem dX10_law_90 : decode cX10_law 90 = .ok (.iload_n 1, 1) := by decide +kernel
theorem dX10_law_91 : decode cX10_law 91 = .ok (.ireturn, 1) := by decide +kernel
theorem dX10_fault_0 : decode cX10_fault 0 = .ok (.aload_n 0, 1) := by decide +kernel
theorem dX10_fault_1 : decode cX10_fault 1 = .ok (.iconst 0, 1) := by decide +kernel
theorem dX10_fault_2 : decode cX10_fault 2 = .ok (.putfield 63, 3) := by decide +kernel
theorem dX10_fault_5 : decode cX10_fault 5 = .ok (.aload_n 0, 1) := by decide +kernel
theorem dX10_fault_6 : decode cX10_fault 6 = .ok (.getfield 25, 3) := by decide +kernel
theorem dX10_fault_9 : decode cX10_fault 9 = .ok (.ireturn, 1) := by decide +kernel
set_option maxRecDepth 20000 in
theorem ggX10_likesOne_X10_ofOne : GoodIn wsX10_likesOne wsX10_ofOne := goodIn_r _ [15, 1, 163, 164, 165, 166, 167, 168, 169, 170, 171, 172, 173, 174, 175, 176, 177, 178, 179, 180, 181, 182, 183, 184, 185, 186, 187, 188, 189, 190] (by decide +kernel) (by decide +kernel)
set_option maxRecDepth 20000 in
theorem gX10_likesOne_X10_ofOne : GoodIn wsX10_likesOne (wsV RX10 246 RX10 yX10_ofOne wsX10_ofOne) := goodIn_app (goodIn_of _ (by decide +kernel)) ggX10_likesOne_X10_ofOne
set_option maxRecDepth 20000 in
theorem ggX10_likesOne_X10_of : GoodIn wsX10_likesOne wsX10_of := goodIn_r _ [19, 1, 163, 164, 165, 166, 167, 168, 169, 170, 171, 172, 173, 174, 175, 176, 177, 178, 179, 180, 181, 182, 183, 184, 185, 186, 187, 188, 189, 190] (by decide +kernel) (by decide +kernel)
set_option maxRecDepth 20000 in
theorem gX10_likesOne_X10_of : GoodIn wsX10_likesOne (wsV RX10 70 RX10 yX10_of wsX10_of) := goodIn_app (goodIn_of _ (by decide +kernel)) ggX10_likesOne_X10_of
set_option maxRecDepth 20000 in
theorem ggX10_likesOne_X10_read : GoodIn wsX10_likesOne wsX10_read := goodIn_r _ [23, 9, 8, 6, 24, 25, 26, 14, 27, 28, 29, 30, 31, 7, 32, 1, 33, 34, 35, 36, 37, 38, 39, 40, 3, 5, 41, 42, 43, 44, 45, 46, 47, 48, 49, 50, 51, 52, 53, 54, 55, 56, 57, 58, 59, 60, 61, 62, 63, 64, 65, 66, 67, 68, 69, 70, 71, 72, 73, 74, 75, 76, 77, 78, 79, 80, 81, 82, 83, 84, 85, 86, 87, 88, 89, 90, 91, 92, 93, 94, 95, 96, 97, 98, 99, 100, 101, 102, 103, 104, 105, 106, 107, 108, 109, 110, 111, 112, 10, 113, 114, 115, 116, 117, 118, 119, 120, 4, 121, 122, 123, 124, 125, 126, 127, 128, 129, 130, 131, 2, 132, 133, 134, 135, 136, 137, 138, 139, 140, 141, 142, 143, 144, 145, 146, 147, 16, 17, 18, 19, 148, 149, 150, 151, 152, 153, 154, 155, 156, 157, 158, 159, 163, 164, 165, 166, 167, 168, 169, 170, 171, 172, 173, 174, 175, 176, 177, 178, 179, 180, 181, 182, 183, 184, 185, 186, 187, 188, 189, 190] (by decide +kernel) (by decide +kernel)
set_option maxRecDepth 20000 in
theorem gX10_likesOne_X10_read : GoodIn wsX10_likesOne (wsV RX10 177 RX10 yX10_read wsX10_read) := goodIn_app (goodIn_of _ (by decide +kernel)) ggX10_likesOne_X10_read
set_option maxRecDepth 20000 in
theorem ggX10_likesOne_X10_greater : GoodIn wsX10_likesOne wsX10_greater := goodIn_r _ [162] (by decide +kernel) (by decide +kernel)
set_option maxRecDepth 20000 in
theorem gX10_likesOne_X10_greater : GoodIn wsX10_likesOne (va_wsS RX10 249 yX10_greater wsX10_greater) := goodIn_app (goodIn_of _ (by decide +kernel)) ggX10_likesOne_X10_greater
theorem dX10_likesOne_0 : decode cX10_likesOne 0 = .ok (.aload_n 0, 1) := by decide +kernel
theorem dX10_likesOne_1 : decode cX10_likesOne 1 = .ok (.getfield 7, 3) := by decide +kernel
theorem dX10_likesOne_4 : decode cX10_likesOne 4 = .ok (.iconst 1, 1) := by decide +kernel
theorem dX10_likesOne_5 : decode cX10_likesOne 5 = .ok (.iaload, 1) := by decide +kernel
theorem dX10_likesOne_6 : decode cX10_likesOne 6 = .ok (.iconst (-1), 1) := by decide +kernel
theorem dX10_likesOne_7 : decode cX10_likesOne 7 = .ok (.if_icmp .ne 10, 3) := by decide +kernel
theorem dX10_likesOne_10 : decode cX10_likesOne 10 = .ok (.aload_n 0, 1) := by decide +kernel
theorem dX10_likesOne_11 : decode cX10_likesOne 11 = .ok (.iload_n 2, 1) := by decide +kernel
theorem dX10_likesOne_12 : decode cX10_likesOne 12 = .ok (.iconst 1, 1) := by decide +kernel
theorem dX10_likesOne_13 : decode cX10_likesOne 13 = .ok (.invokevirtual 246, 3) := by decide +kernel
theorem dX10_likesOne_16 : decode cX10_likesOne 16 = .ok (.ireturn, 1) := by decide +kernel
theorem dX10_likesOne_17 : decode cX10_likesOne 17 = .ok (.aload_n 0, 1) := by decide +kernel
theorem dX10_likesOne_18 : decode cX10_likesOne 18 = .ok (.getfield 29, 3) := by decide +kernel
theorem dX10_likesOne_21 : decode cX10_likesOne 21 = .ok (.iconst 0, 1) := by decide +kernel
theorem dX10_likesOne_22 : decode cX10_likesOne 22 = .ok (.aload_n 0, 1) := by decide +kernel
theorem dX10_likesOne_23 : decode cX10_likesOne 23 = .ok (.iload_n 2, 1) := by decide +kernel
theorem dX10_likesOne_24 : decode cX10_likesOne 24 = .ok (.iconst 0, 1) := by decide +kernel
theorem dX10_likesOne_25 : decode cX10_likesOne 25 = .ok (.invokevirtual 246, 3) := by decide +kernel
theorem dX10_likesOne_28 : decode cX10_likesOne 28 = .ok (.iastore, 1) := by decide +kernel
theorem dX10_likesOne_29 : decode cX10_likesOne 29 = .ok (.aload_n 0, 1) := by decide +kernel
theorem dX10_likesOne_30 : decode cX10_likesOne 30 = .ok (.getfield 29, 3) := by decide +kernel
theorem dX10_likesOne_33 : decode cX10_likesOne 33 = .ok (.iconst 1, 1) := by decide +kernel
theorem dX10_likesOne_34 : decode cX10_likesOne 34 = .ok (.aload_n 0, 1) := by decide +kernel
theorem dX10_likesOne_35 : decode cX10_likesOne 35 = .ok (.iload_n 2, 1) := by decide +kernel
theorem dX10_likesOne_36 : decode cX10_likesOne 36 = .ok (.iconst 1, 1) := by decide +kernel
theorem dX10_likesOne_37 : decode cX10_likesOne 37 = .ok (.invokevirtual 246, 3) := by decide +kernel
theorem dX10_likesOne_40 : decode cX10_likesOne 40 = .ok (.iastore, 1) := by decide +kernel
theorem dX10_likesOne_41 : decode cX10_likesOne 41 = .ok (.aload_n 0, 1) := by decide +kernel
theorem dX10_likesOne_42 : decode cX10_likesOne 42 = .ok (.getfield 29, 3) := by decide +kernel
theorem dX10_likesOne_45 : decode cX10_likesOne 45 = .ok (.iconst 2, 1) := by decide +kernel
theorem dX10_likesOne_46 : decode cX10_likesOne 46 = .ok (.aload_n 0, 1) := by decide +kernel
theorem dX10_likesOne_47 : decode cX10_likesOne 47 = .ok (.iload_n 2, 1) := by decide +kernel
theorem dX10_likesOne_48 : decode cX10_likesOne 48 = .ok (.iconst 2, 1) := by decide +kernel
theorem dX10_likesOne_49 : decode cX10_likesOne 49 = .ok (.invokevirtual 246, 3) := by decide +kernel
theorem dX10_likesOne_52 : decode cX10_likesOne 52 = .ok (.iastore, 1) := by decide +kernel
theorem dX10_likesOne_53 : decode cX10_likesOne 53 = .ok (.aload_n 0, 1) := by decide +kernel
theorem dX10_likesOne_54 : decode cX10_likesOne 54 = .ok (.getfield 29, 3) := by decide +kernel
theorem dX10_likesOne_57 : decode cX10_likesOne 57 = .ok (.iconst 3, 1) := by decide +kernel
theorem dX10_likesOne_58 : decode cX10_likesOne 58 = .ok (.aload_n 0, 1) := by decide +kernel
theorem dX10_likesOne_59 : decode cX10_likesOne 59 = .ok (.iload_n 1, 1) := by decide +kernel
theorem dX10_likesOne_60 : decode cX10_likesOne 60 = .ok (.iconst 0, 1) := by decide +kernel
theorem dX10_likesOne_61 : decode cX10_likesOne 61 = .ok (.invokevirtual 70, 3) := by decide +kernel
theorem dX10_likesOne_64 : decode cX10_likesOne 64 = .ok (.iastore, 1) := by decide +kernel
theorem dX10_likesOne_65 : decode cX10_likesOne 65 = .ok (.aload_n 0, 1) := by decide +kernel
theorem dX10_likesOne_66 : decode cX10_likesOne 66 = .ok (.getfield 29, 3) := by decide +kernel
theorem dX10_likesOne_69 : decode cX10_likesOne 69 = .ok (.iconst 4, 1) := by decide +kernel
theorem dX10_likesOne_70 : decode cX10_likesOne 70 = .ok (.aload_n 0, 1) := by decide +kernel
theorem dX10_likesOne_71 : decode cX10_likesOne 71 = .ok (.iload_n 1, 1) := by decide +kernel
theorem dX10_likesOne_72 : decode cX10_likesOne 72 = .ok (.iconst 4, 1) := by decide +kernel
theorem dX10_likesOne_73 : decode cX10_likesOne 73 = .ok (.invokevirtual 70, 3) := by decide +kernel
theorem dX10_likesOne_76 : decode cX10_likesOne 76 = .ok (.iastore, 1) := by decide +kernel
theorem dX10_likesOne_77 : decode cX10_likesOne 77 = .ok (.aload_n 0, 1) := by decide +kernel
theorem dX10_likesOne_78 : decode cX10_likesOne 78 = .ok (.getfield 29, 3) := by decide +kernel
theorem dX10_likesOne_81 : decode cX10_likesOne 81 = .ok (.iconst 5, 1) := by decide +kernel
theorem dX10_likesOne_82 : decode cX10_likesOne 82 = .ok (.aload_n 0, 1) := by decide +kernel
theorem dX10_likesOne_83 : decode cX10_likesOne 83 = .ok (.getfield 7, 3) := by decide +kernel
theorem dX10_likesOne_86 : decode cX10_likesOne 86 = .ok (.bipush 6, 2) := by decide +kernel
theorem dX10_likesOne_88 : decode cX10_likesOne 88 = .ok (.iaload, 1) := by decide +kernel
theorem dX10_likesOne_89 : decode cX10_likesOne 89 = .ok (.iastore, 1) := by decide +kernel
theorem dX10_likesOne_90 : decode cX10_likesOne 90 = .ok (.aload_n 0, 1) := by decide +kernel
theorem dX10_likesOne_91 : decode cX10_likesOne 91 = .ok (.iload_n 1, 1) := by decide +kernel
theorem dX10_likesOne_92 : decode cX10_likesOne 92 = .ok (.putfield 241, 3) := by decide +kernel
theorem dX10_likesOne_95 : decode cX10_likesOne 95 = .ok (.aload_n 0, 1) := by decide +kernel
theorem dX10_likesOne_96 : decode cX10_likesOne 96 = .ok (.iload_n 3, 1) := by decide +kernel
theorem dX10_likesOne_97 : decode cX10_likesOne 97 = .ok (.putfield 208, 3) := by decide +kernel
theorem dX10_likesOne_100 : decode cX10_likesOne 100 = .ok (.aload_n 0, 1) := by decide +kernel
theorem dX10_likesOne_101 : decode cX10_likesOne 101 = .ok (.iconst 0, 1) := by decide +kernel
theorem dX10_likesOne_102 : decode cX10_likesOne 102 = .ok (.putfield 244, 3) := by decide +kernel
theorem dX10_likesOne_105 : decode cX10_likesOne 105 = .ok (.aload_n 0, 1) := by decide +kernel
theorem dX10_likesOne_106 : decode cX10_likesOne 106 = .ok (.getfield 25, 3) := by decide +kernel
theorem dX10_likesOne_109 : decode cX10_likesOne 109 = .ok (.istore 4, 2) := by decide +kernel
theorem dX10_likesOne_111 : decode cX10_likesOne 111 = .ok (.aload_n 0, 1) := by decide +kernel
theorem dX10_likesOne_112 : decode cX10_likesOne 112 = .ok (.iconst (-1), 1) := by decide +kernel
theorem dX10_likesOne_113 : decode cX10_likesOne 113 = .ok (.putfield 25, 3) := by decide +kernel
theorem dX10_likesOne_116 : decode cX10_likesOne 116 = .ok (.aload_n 0, 1) := by decide +kernel
theorem dX10_likesOne_117 : decode cX10_likesOne 117 = .ok (.sipush 407, 3) := by decide +kernel
theorem dX10_likesOne_120 : decode cX10_likesOne 120 = .ok (.putfield 77, 3) := by decide +kernel
theorem dX10_likesOne_123 : decode cX10_likesOne 123 = .ok (.aload_n 0, 1) := by decide +kernel
theorem dX10_likesOne_124 : decode cX10_likesOne 124 = .ok (.aload_n 0, 1) := by decide +kernel
theorem dX10_likesOne_125 : decode cX10_likesOne 125 = .ok (.getfield 7, 3) := by decide +kernel
theorem dX10_likesOne_128 : decode cX10_likesOne 128 = .ok (.iconst 2, 1) := by decide +kernel
theorem dX10_likesOne_129 : decode cX10_likesOne 129 = .ok (.iaload, 1) := by decide +kernel
theorem dX10_likesOne_130 : decode cX10_likesOne 130 = .ok (.putfield 83, 3) := by decide +kernel
theorem dX10_likesOne_133 : decode cX10_likesOne 133 = .ok (.aload_n 0, 1) := by decide +kernel
theorem dX10_likesOne_134 : decode cX10_likesOne 134 = .ok (.iconst 0, 1) := by decide +kernel
theorem dX10_likesOne_135 : decode cX10_likesOne 135 = .ok (.putfield 80, 3) := by decide +kernel
theorem dX10_likesOne_138 : decode cX10_likesOne 138 = .ok (.aload_n 0, 1) := by decide +kernel
theorem dX10_likesOne_139 : decode cX10_likesOne 139 = .ok (.iconst 0, 1) := by decide +kernel
theorem dX10_likesOne_140 : decode cX10_likesOne 140 = .ok (.putfield 158, 3) := by decide +kernel
theorem dX10_likesOne_143 : decode cX10_likesOne 143 = .ok (.aload_n 0, 1) := by decide +kernel
theorem dX10_likesOne_144 : decode cX10_likesOne 144 = .ok (.iconst 1, 1) := by decide +kernel
theorem dX10_likesOne_145 : decode cX10_likesOne 145 = .ok (.invokevirtual 177, 3) := by decide +kernel
theorem dX10_likesOne_148 : decode cX10_likesOne 148 = .ok (.istore 5, 2) := by decide +kernel
theorem dX10_likesOne_150 : decode cX10_likesOne 150 = .ok (.aload_n 0, 1) := by decide +kernel
theorem dX10_likesOne_151 : decode cX10_likesOne 151 = .ok (.iload 4, 2) := by decide +kernel
theorem dX10_likesOne_153 : decode cX10_likesOne 153 = .ok (.putfield 25, 3) := by decide +kernel
theorem dX10_likesOne_156 : decode cX10_likesOne 156 = .ok (.iconst 0, 1) := by decide +kernel
theorem dX10_likesOne_157 : decode cX10_likesOne 157 = .ok (.aload_n 0, 1) := by decide +kernel
theorem dX10_likesOne_158 : decode cX10_likesOne 158 = .ok (.getfield 244, 3) := by decide +kernel
theorem dX10_likesOne_161 : decode cX10_likesOne 161 = .ok (.invokestatic 249, 3) := by decide +kernel
theorem dX10_likesOne_164 : decode cX10_likesOne 164 = .ok (.ireturn, 1) := by decide +kernel
set_option maxRecDepth 20000 in
theorem ggX10_rings_X10_of : GoodIn wsX10_rings wsX10_of := goodIn_r _ [5, 6, 7, 8, 9, 10, 11, 12, 13, 14, 15, 16, 17, 18, 19, 20, 21, 22, 23, 24, 25, 26, 27, 28, 29, 30, 31, 32, 33, 34] (by decide +kernel) (by decide +kernel)
set_option maxRecDepth 20000 in
theorem gX10_rings_X10_of : GoodIn wsX10_rings (wsV RX10 70 RX10 yX10_of wsX10_of) := goodIn_app (goodIn_of _ (by decide +kernel)) ggX10_rings_X10_of
theorem dX10_rings_0 : decode cX10_rings 0 = .ok (.aload_n 0, 1) := by decide +kernel
theorem dX10_rings_1 : decode cX10_rings 1 = .ok (.iload_n 1, 1) := by decide +kernel
theorem dX10_rings_2 : decode cX10_rings 2 = .ok (.iconst 3, 1) := by decide +kernel
theorem dX10_rings_3 : decode cX10_rings 3 = .ok (.invokevirtual 70, 3) := by decide +kernel
theorem dX10_rings_6 : decode cX10_rings 6 = .ok (.iconst 1, 1) := by decide +kernel
theorem dX10_rings_7 : decode cX10_rings 7 = .ok (.if_icmp .ne 28, 3) := by decide +kernel
theorem dX10_rings_10 : decode cX10_rings 10 = .ok (.iload_n 2, 1) := by decide +kernel
theorem dX10_rings_11 : decode cX10_rings 11 = .ok (.ifCond .le 24, 3) := by decide +kernel
theorem dX10_rings_14 : decode cX10_rings 14 = .ok (.iload_n 2, 1) := by decide +kernel
theorem dX10_rings_15 : decode cX10_rings 15 = .ok (.aload_n 0, 1) := by decide +kernel
theorem dX10_rings_16 : decode cX10_rings 16 = .ok (.iload_n 1, 1) := by decide +kernel
theorem dX10_rings_17 : decode cX10_rings 17 = .ok (.iconst 1, 1) := by decide +kernel
theorem dX10_rings_18 : decode cX10_rings 18 = .ok (.invokevirtual 70, 3) := by decide +kernel
theorem dX10_rings_21 : decode cX10_rings 21 = .ok (.aload_n 0, 1) := by decide +kernel
theorem dX10_rings_22 : decode cX10_rings 22 = .ok (.iload_n 1, 1) := by decide +kernel
theorem dX10_rings_23 : decode cX10_rings 23 = .ok (.iconst 4, 1) := by decide +kernel
theorem dX10_rings_24 : decode cX10_rings 24 = .ok (.invokevirtual 70, 3) := by decide +kernel
theorem dX10_rings_27 : decode cX10_rings 27 = .ok (.isub, 1) := by decide +kernel
theorem dX10_rings_28 : decode cX10_rings 28 = .ok (.if_icmp .lt 7, 3) := by decide +kernel
theorem dX10_rings_31 : decode cX10_rings 31 = .ok (.iconst 1, 1) := by decide +kernel
theorem dX10_rings_32 : decode cX10_rings 32 = .ok (.goto 4, 3) := by decide +kernel
theorem dX10_rings_35 : decode cX10_rings 35 = .ok (.iconst 0, 1) := by decide +kernel
theorem dX10_rings_36 : decode cX10_rings 36 = .ok (.ireturn, 1) := by decide +kernel
set_option maxRecDepth 20000 in
theorem ggX10_asks_X10_ofOne : GoodIn wsX10_asks wsX10_ofOne := goodIn_r _ [7, 1, 168, 169, 170, 171, 172, 173, 174, 175, 176, 177, 178, 179, 180, 181, 182, 183, 184, 185, 186, 187, 188, 189, 190, 191, 192, 193, 194, 195] (by decide +kernel) (by decide +kernel)
set_option maxRecDepth 20000 in
theorem gX10_asks_X10_ofOne : GoodIn wsX10_asks (wsV RX10 246 RX10 yX10_ofOne wsX10_ofOne) := goodIn_app (goodIn_of _ (by decide +kernel)) ggX10_asks_X10_ofOne
set_option maxRecDepth 20000 in
theorem ggX10_asks_X10_likesOne : GoodIn wsX10_asks wsX10_likesOne := goodIn_r _ [11, 1, 12, 13, 14, 15, 16, 17, 18, 19, 20, 3, 4, 5, 6, 7, 21, 22, 23, 24, 25, 26, 27, 28, 29, 30, 31, 32, 33, 34, 35, 36, 37, 38, 39, 40, 41, 42, 43, 44, 45, 46, 47, 48, 49, 50, 51, 52, 53, 54, 55, 56, 57, 58, 59, 60, 61, 62, 63, 64, 65, 66, 67, 68, 69, 70, 71, 72, 73, 74, 75, 76, 77, 78, 79, 80, 81, 82, 83, 84, 85, 86, 87, 88, 89, 90, 91, 92, 93, 94, 95, 96, 97, 98, 99, 100, 101, 102, 103, 104, 105, 106, 107, 108, 109, 110, 111, 112, 113, 114, 115, 116, 117, 118, 119, 120, 121, 122, 123, 124, 125, 126, 127, 128, 129, 130, 131, 132, 133, 134, 135, 136, 137, 138, 139, 140, 141, 142, 143, 144, 145, 146, 147, 148, 149, 150, 151, 152, 153, 154, 155, 156, 157, 158, 159, 160, 161, 162, 163, 164, 165, 166, 167, 168, 169, 170, 171, 172, 173, 174, 175, 176, 177, 178, 179, 180, 181, 182, 183, 184, 185, 186, 187, 188, 189, 190, 191, 192, 193, 194, 195] (by decide +kernel) (by decide +kernel)
set_option maxRecDepth 20000 in
theorem gX10_asks_X10_likesOne : GoodIn wsX10_asks (wsV RX10 252 RX10 yX10_likesOne wsX10_likesOne) := goodIn_app (goodIn_of _ (by decide +kernel)) ggX10_asks_X10_likesOne
theorem dX10_asks_0 : decode cX10_asks 0 = .ok (.iconst 0, 1) := by decide +kernel
theorem dX10_asks_1 : decode cX10_asks 1 = .ok (.istore_n 1, 1) := by decide +kernel
theorem dX10_asks_2 : decode cX10_asks 2 = .ok (.iload_n 1, 1) := by decide +kernel
theorem dX10_asks_3 : decode cX10_asks 3 = .ok (.aload_n 0, 1) := by decide +kernel
theorem dX10_asks_4 : decode cX10_asks 4 = .ok (.getfield 7, 3) := by decide +kernel
theorem dX10_asks_7 : decode cX10_asks 7 = .ok (.iconst 3, 1) := by decide +kernel
theorem dX10_asks_8 : decode cX10_asks 8 = .ok (.iaload, 1) := by decide +kernel
theorem dX10_asks_9 : decode cX10_asks 9 = .ok (.if_icmp .ge 50, 3) := by decide +kernel
theorem dX10_asks_12 : decode cX10_asks 12 = .ok (.iconst 0, 1) := by decide +kernel
theorem dX10_asks_13 : decode cX10_asks 13 = .ok (.istore_n 2, 1) := by decide +kernel
theorem dX10_asks_14 : decode cX10_asks 14 = .ok (.iload_n 2, 1) := by decide +kernel
theorem dX10_asks_15 : decode cX10_asks 15 = .ok (.aload_n 0, 1) := by decide +kernel
theorem dX10_asks_16 : decode cX10_asks 16 = .ok (.getfield 7, 3) := by decide +kernel
theorem dX10_asks_19 : decode cX10_asks 19 = .ok (.iconst 4, 1) := by decide +kernel
theorem dX10_asks_20 : decode cX10_asks 20 = .ok (.iaload, 1) := by decide +kernel
theorem dX10_asks_21 : decode cX10_asks 21 = .ok (.if_icmp .ge 32, 3) := by decide +kernel
theorem dX10_asks_24 : decode cX10_asks 24 = .ok (.aload_n 0, 1) := by decide +kernel
theorem dX10_asks_25 : decode cX10_asks 25 = .ok (.getfield 32, 3) := by decide +kernel
theorem dX10_asks_28 : decode cX10_asks 28 = .ok (.bipush 10, 2) := by decide +kernel
theorem dX10_asks_30 : decode cX10_asks 30 = .ok (.iload_n 1, 1) := by decide +kernel
theorem dX10_asks_31 : decode cX10_asks 31 = .ok (.imul, 1) := by decide +kernel
theorem dX10_asks_32 : decode cX10_asks 32 = .ok (.iload_n 2, 1) := by decide +kernel
theorem dX10_asks_33 : decode cX10_asks 33 = .ok (.iadd, 1) := by decide +kernel
theorem dX10_asks_34 : decode cX10_asks 34 = .ok (.aload_n 0, 1) := by decide +kernel
theorem dX10_asks_35 : decode cX10_asks 35 = .ok (.iload_n 1, 1) := by decide +kernel
theorem dX10_asks_36 : decode cX10_asks 36 = .ok (.iload_n 2, 1) := by decide +kernel
theorem dX10_asks_37 : decode cX10_asks 37 = .ok (.aload_n 0, 1) := by decide +kernel
theorem dX10_asks_38 : decode cX10_asks 38 = .ok (.iload_n 2, 1) := by decide +kernel
theorem dX10_asks_39 : decode cX10_asks 39 = .ok (.iconst 4, 1) := by decide +kernel
theorem dX10_asks_40 : decode cX10_asks 40 = .ok (.invokevirtual 246, 3) := by decide +kernel
theorem dX10_asks_43 : decode cX10_asks 43 = .ok (.invokevirtual 252, 3) := by decide +kernel
theorem dX10_asks_46 : decode cX10_asks 46 = .ok (.iastore, 1) := by decide +kernel
theorem dX10_asks_47 : decode cX10_asks 47 = .ok (.iinc 2 1, 3) := by decide +kernel
theorem dX10_asks_50 : decode cX10_asks 50 = .ok (.goto (-36), 3) := by decide +kernel
theorem dX10_asks_53 : decode cX10_asks 53 = .ok (.iinc 1 1, 3) := by decide +kernel
theorem dX10_asks_56 : decode cX10_asks 56 = .ok (.goto (-54), 3) := by decide +kernel
theorem dX10_asks_59 : decode cX10_asks 59 = .ok (.return_, 1) := by decide +kernel
set_option maxRecDepth 20000 in
theorem ggX10_canHave_X10_rings : GoodIn wsX10_canHave wsX10_rings := goodIn_r _ [6, 7, 8, 9, 5, 10, 11, 12, 13, 14, 15, 16, 17, 18, 19, 20, 21, 22, 23, 24, 25, 26, 27, 28, 29, 30, 31, 32, 33, 34, 35, 36, 37, 38, 39] (by decide +kernel) (by decide +kernel)
set_option maxRecDepth 20000 in
theorem gX10_canHave_X10_rings : GoodIn wsX10_canHave (wsV RX10 256 RX10 yX10_rings wsX10_rings) := goodIn_app (goodIn_of _ (by decide +kernel)) ggX10_canHave_X10_rings
theorem dX10_canHave_0 : decode cX10_canHave 0 = .ok (.aload_n 0, 1) := by decide +kernel
theorem dX10_canHave_1 : decode cX10_canHave 1 = .ok (.iload_n 1, 1) := by decide +kernel
theorem dX10_canHave_2 : decode cX10_canHave 2 = .ok (.aload_n 0, 1) := by decide +kernel
theorem dX10_canHave_3 : decode cX10_canHave 3 = .ok (.getfield 32, 3) := by decide +kernel
theorem dX10_canHave_6 : decode cX10_canHave 6 = .ok (.bipush 10, 2) := by decide +kernel
theorem dX10_canHave_8 : decode cX10_canHave 8 = .ok (.iload_n 1, 1) := by decide +kernel
theorem dX10_canHave_9 : decode cX10_canHave 9 = .ok (.imul, 1) := by decide +kernel
theorem dX10_canHave_10 : decode cX10_canHave 10 = .ok (.iload_n 2, 1) := by decide +kernel
theorem dX10_canHave_11 : decode cX10_canHave 11 = .ok (.iadd, 1) := by decide +kernel
theorem dX10_canHave_12 : decode cX10_canHave 12 = .ok (.iaload, 1) := by decide +kernel
theorem dX10_canHave_13 : decode cX10_canHave 13 = .ok (.invokevirtual 256, 3) := by decide +kernel
theorem dX10_canHave_16 : decode cX10_canHave 16 = .ok (.ireturn, 1) := by decide +kernel
set_option maxRecDepth 20000 in
theorem ggX10_ledPast_X10_of : GoodIn wsX10_ledPast wsX10_of := goodIn_r _ [9, 1, 18, 19, 20, 21, 22, 23, 24, 25, 26, 27, 28, 29, 30, 31, 32, 33, 34, 35, 36, 37, 38, 39, 40, 41, 42, 43, 44, 45] (by decide +kernel) (by decide +kernel)
set_option maxRecDepth 20000 in
theorem gX10_ledPast_X10_of : GoodIn wsX10_ledPast (wsV RX10 70 RX10 yX10_of wsX10_of) := goodIn_app (goodIn_of _ (by decide +kernel)) ggX10_ledPast_X10_of
set_option maxRecDepth 20000 in
theorem ggX10_ledPast_X10_canHave : GoodIn wsX10_ledPast wsX10_canHave := goodIn_r _ [13, 4, 14, 15, 16, 8, 17, 5, 6, 7, 9, 1, 18, 19, 20, 21, 22, 23, 24, 25, 26, 27, 28, 29, 30, 31, 32, 33, 34, 35, 36, 37, 38, 39, 40, 41, 42, 43, 44, 45] (by decide +kernel) (by decide +kernel)
set_option maxRecDepth 20000 in
theorem gX10_ledPast_X10_canHave : GoodIn wsX10_ledPast (wsV RX10 259 RX10 yX10_canHave wsX10_canHave) := goodIn_app (goodIn_of _ (by decide +kernel)) ggX10_ledPast_X10_canHave
theorem dX10_ledPast_0 : decode cX10_ledPast 0 = .ok (.iconst (-1), 1) := by decide +kernel
theorem dX10_ledPast_1 : decode cX10_ledPast 1 = .ok (.istore_n 2, 1) := by decide +kernel
theorem dX10_ledPast_2 : decode cX10_ledPast 2 = .ok (.iconst 0, 1) := by decide +kernel
theorem dX10_ledPast_3 : decode cX10_ledPast 3 = .ok (.istore_n 3, 1) := by decide +kernel
theorem dX10_ledPast_4 : decode cX10_ledPast 4 = .ok (.iload_n 3, 1) := by decide +kernel
theorem dX10_ledPast_5 : decode cX10_ledPast 5 = .ok (.aload_n 0, 1) := by decide +kernel
theorem dX10_ledPast_6 : decode cX10_ledPast 6 = .ok (.getfield 7, 3) := by decide +kernel
theorem dX10_ledPast_9 : decode cX10_ledPast 9 = .ok (.iconst 3, 1) := by decide +kernel
theorem dX10_ledPast_10 : decode cX10_ledPast 10 = .ok (.iaload, 1) := by decide +kernel
theorem dX10_ledPast_11 : decode cX10_ledPast 11 = .ok (.if_icmp .ge 116, 3) := by decide +kernel
theorem dX10_ledPast_14 : decode cX10_ledPast 14 = .ok (.aload_n 0, 1) := by decide +kernel
theorem dX10_ledPast_15 : decode cX10_ledPast 15 = .ok (.getfield 41, 3) := by decide +kernel
theorem dX10_ledPast_18 : decode cX10_ledPast 18 = .ok (.iload_n 3, 1) := by decide +kernel
theorem dX10_ledPast_19 : decode cX10_ledPast 19 = .ok (.iaload, 1) := by decide +kernel
theorem dX10_ledPast_20 : decode cX10_ledPast 20 = .ok (.aload_n 0, 1) := by decide +kernel
theorem dX10_ledPast_21 : decode cX10_ledPast 21 = .ok (.iload_n 3, 1) := by decide +kernel
theorem dX10_ledPast_22 : decode cX10_ledPast 22 = .ok (.iconst 2, 1) := by decide +kernel
theorem dX10_ledPast_23 : decode cX10_ledPast 23 = .ok (.invokevirtual 70, 3) := by decide +kernel
theorem dX10_ledPast_26 : decode cX10_ledPast 26 = .ok (.if_icmp .eq 95, 3) := by decide +kernel
theorem dX10_ledPast_29 : decode cX10_ledPast 29 = .ok (.aload_n 0, 1) := by decide +kernel
theorem dX10_ledPast_30 : decode cX10_ledPast 30 = .ok (.iload_n 3, 1) := by decide +kernel
theorem dX10_ledPast_31 : decode cX10_ledPast 31 = .ok (.iload_n 1, 1) := by decide +kernel
theorem dX10_ledPast_32 : decode cX10_ledPast 32 = .ok (.invokevirtual 259, 3) := by decide +kernel
theorem dX10_ledPast_35 : decode cX10_ledPast 35 = .ok (.ifCond .ne 6, 3) := by decide +kernel
theorem dX10_ledPast_38 : decode cX10_ledPast 38 = .ok (.goto 83, 3) := by decide +kernel
theorem dX10_ledPast_41 : decode cX10_ledPast 41 = .ok (.aload_n 0, 1) := by decide +kernel
theorem dX10_ledPast_42 : decode cX10_ledPast 42 = .ok (.iload_n 3, 1) := by decide +kernel
theorem dX10_ledPast_43 : decode cX10_ledPast 43 = .ok (.iconst 0, 1) := by decide +kernel
theorem dX10_ledPast_44 : decode cX10_ledPast 44 = .ok (.invokevirtual 70, 3) := by decide +kernel
theorem dX10_ledPast_47 : decode cX10_ledPast 47 = .ok (.aload_n 0, 1) := by decide +kernel
theorem dX10_ledPast_48 : decode cX10_ledPast 48 = .ok (.getfield 7, 3) := by decide +kernel
theorem dX10_ledPast_51 : decode cX10_ledPast 51 = .ok (.iconst 5, 1) := by decide +kernel
theorem dX10_ledPast_52 : decode cX10_ledPast 52 = .ok (.iaload, 1) := by decide +kernel
theorem dX10_ledPast_53 : decode cX10_ledPast 53 = .ok (.idiv, 1) := by decide +kernel
theorem dX10_ledPast_54 : decode cX10_ledPast 54 = .ok (.istore 4, 2) := by decide +kernel
theorem dX10_ledPast_56 : decode cX10_ledPast 56 = .ok (.iload_n 2, 1) := by decide +kernel
theorem dX10_ledPast_57 : decode cX10_ledPast 57 = .ok (.iconst (-1), 1) := by decide +kernel
theorem dX10_ledPast_58 : decode cX10_ledPast 58 = .ok (.if_icmp .eq 53, 3) := by decide +kernel
theorem dX10_ledPast_61 : decode cX10_ledPast 61 = .ok (.iload 4, 2) := by decide +kernel
theorem dX10_ledPast_63 : decode cX10_ledPast 63 = .ok (.aload_n 0, 1) := by decide +kernel
theorem dX10_ledPast_64 : decode cX10_ledPast 64 = .ok (.getfield 38, 3) := by decide +kernel
theorem dX10_ledPast_67 : decode cX10_ledPast 67 = .ok (.iload_n 1, 1) := by decide +kernel
theorem dX10_ledPast_68 : decode cX10_ledPast 68 = .ok (.iaload, 1) := by decide +kernel
theorem dX10_ledPast_69 : decode cX10_ledPast 69 = .ok (.if_icmp .gt 52, 3) := by decide +kernel
theorem dX10_ledPast_72 : decode cX10_ledPast 72 = .ok (.iload 4, 2) := by decide +kernel
theorem dX10_ledPast_74 : decode cX10_ledPast 74 = .ok (.aload_n 0, 1) := by decide +kernel
theorem dX10_ledPast_75 : decode cX10_ledPast 75 = .ok (.getfield 38, 3) := by decide +kernel
theorem dX10_ledPast_78 : decode cX10_ledPast 78 = .ok (.iload_n 1, 1) := by decide +kernel
theorem dX10_ledPast_79 : decode cX10_ledPast 79 = .ok (.iaload, 1) := by decide +kernel
theorem dX10_ledPast_80 : decode cX10_ledPast 80 = .ok (.if_icmp .ne 31, 3) := by decide +kernel
theorem dX10_ledPast_83 : decode cX10_ledPast 83 = .ok (.aload_n 0, 1) := by decide +kernel
theorem dX10_ledPast_84 : decode cX10_ledPast 84 = .ok (.getfield 32, 3) := by decide +kernel
theorem dX10_ledPast_87 : decode cX10_ledPast 87 = .ok (.bipush 10, 2) := by decide +kernel
theorem dX10_ledPast_89 : decode cX10_ledPast 89 = .ok (.iload_n 3, 1) := by decide +kernel
theorem dX10_ledPast_90 : decode cX10_ledPast 90 = .ok (.imul, 1) := by decide +kernel
theorem dX10_ledPast_91 : decode cX10_ledPast 91 = .ok (.iload_n 1, 1) := by decide +kernel
theorem dX10_ledPast_92 : decode cX10_ledPast 92 = .ok (.iadd, 1) := by decide +kernel
theorem dX10_ledPast_93 : decode cX10_ledPast 93 = .ok (.iaload, 1) := by decide +kernel
theorem dX10_ledPast_94 : decode cX10_ledPast 94 = .ok (.aload_n 0, 1) := by decide +kernel
theorem dX10_ledPast_95 : decode cX10_ledPast 95 = .ok (.getfield 32, 3) := by decide +kernel
theorem dX10_ledPast_98 : decode cX10_ledPast 98 = .ok (.bipush 10, 2) := by decide +kernel
theorem dX10_ledPast_100 : decode cX10_ledPast 100 = .ok (.iload_n 2, 1) := by decide +kernel
theorem dX10_ledPast_101 : decode cX10_ledPast 101 = .ok (.imul, 1) := by decide +kernel
theorem dX10_ledPast_102 : decode cX10_ledPast 102 = .ok (.iload_n 1, 1) := by decide +kernel
theorem dX10_ledPast_103 : decode cX10_ledPast 103 = .ok (.iadd, 1) := by decide +kernel
theorem dX10_ledPast_104 : decode cX10_ledPast 104 = .ok (.iaload, 1) := by decide +kernel
theorem dX10_ledPast_105 : decode cX10_ledPast 105 = .ok (.if_icmp .gt 6, 3) := by decide +kernel
theorem dX10_ledPast_108 : decode cX10_ledPast 108 = .ok (.goto 13, 3) := by decide +kernel
theorem dX10_ledPast_111 : decode cX10_ledPast 111 = .ok (.iload_n 3, 1) := by decide +kernel
theorem dX10_ledPast_112 : decode cX10_ledPast 112 = .ok (.istore_n 2, 1) := by decide +kernel
theorem dX10_ledPast_113 : decode cX10_ledPast 113 = .ok (.aload_n 0, 1) := by decide +kernel
theorem dX10_ledPast_114 : decode cX10_ledPast 114 = .ok (.getfield 38, 3) := by decide +kernel
theorem dX10_ledPast_117 : decode cX10_ledPast 117 = .ok (.iload_n 1, 1) := by decide +kernel
theorem dX10_ledPast_118 : decode cX10_ledPast 118 = .ok (.iload 4, 2) := by decide +kernel
theorem dX10_ledPast_120 : decode cX10_ledPast 120 = .ok (.iastore, 1) := by decide +kernel
theorem dX10_ledPast_121 : decode cX10_ledPast 121 = .ok (.iinc 3 1, 3) := by decide +kernel
theorem dX10_ledPast_124 : decode cX10_ledPast 124 = .ok (.goto (-120), 3) := by decide +kernel
theorem dX10_ledPast_127 : decode cX10_ledPast 127 = .ok (.iload_n 2, 1) := by decide +kernel
theorem dX10_ledPast_128 : decode cX10_ledPast 128 = .ok (.ireturn, 1) := by decide +kernel
theorem dX10_beginsDay_0 : decode cX10_beginsDay 0 = .ok (.iconst 0, 1) := by decide +kernel
theorem dX10_beginsDay_1 : decode cX10_beginsDay 1 = .ok (.istore_n 1, 1) := by decide +kernel
theorem dX10_beginsDay_2 : decode cX10_beginsDay 2 = .ok (.iload_n 1, 1) := by decide +kernel
theorem dX10_beginsDay_3 : decode cX10_beginsDay 3 = .ok (.bipush 9, 2) := by decide +kernel
theorem dX10_beginsDay_5 : decode cX10_beginsDay 5 = .ok (.if_icmp .ge 16, 3) := by decide +kernel
theorem dX10_beginsDay_8 : decode cX10_beginsDay 8 = .ok (.aload_n 0, 1) := by decide +kernel
theorem dX10_beginsDay_9 : decode cX10_beginsDay 9 = .ok (.getfield 41, 3) := by decide +kernel
theorem dX10_beginsDay_12 : decode cX10_beginsDay 12 = .ok (.iload_n 1, 1) := by decide +kernel
theorem dX10_beginsDay_13 : decode cX10_beginsDay 13 = .ok (.iconst 0, 1) := by decide +kernel
theorem dX10_beginsDay_14 : decode cX10_beginsDay 14 = .ok (.iastore, 1) := by decide +kernel
theorem dX10_beginsDay_15 : decode cX10_beginsDay 15 = .ok (.iinc 1 1, 3) := by decide +kernel
theorem dX10_beginsDay_18 : decode cX10_beginsDay 18 = .ok (.goto (-16), 3) := by decide +kernel
theorem dX10_beginsDay_21 : decode cX10_beginsDay 21 = .ok (.iconst 0, 1) := by decide +kernel
theorem dX10_beginsDay_22 : decode cX10_beginsDay 22 = .ok (.istore_n 1, 1) := by decide +kernel
theorem dX10_beginsDay_23 : decode cX10_beginsDay 23 = .ok (.iload_n 1, 1) := by decide +kernel
theorem dX10_beginsDay_24 : decode cX10_beginsDay 24 = .ok (.bipush 10, 2) := by decide +kernel
theorem dX10_beginsDay_26 : decode cX10_beginsDay 26 = .ok (.if_icmp .ge 23, 3) := by decide +kernel
theorem dX10_beginsDay_29 : decode cX10_beginsDay 29 = .ok (.aload_n 0, 1) := by decide +kernel
theorem dX10_beginsDay_30 : decode cX10_beginsDay 30 = .ok (.getfield 35, 3) := by decide +kernel
theorem dX10_beginsDay_33 : decode cX10_beginsDay 33 = .ok (.iload_n 1, 1) := by decide +kernel
theorem dX10_beginsDay_34 : decode cX10_beginsDay 34 = .ok (.iconst (-1), 1) := by decide +kernel
theorem dX10_beginsDay_35 : decode cX10_beginsDay 35 = .ok (.iastore, 1) := by decide +kernel
theorem dX10_beginsDay_36 : decode cX10_beginsDay 36 = .ok (.aload_n 0, 1) := by decide +kernel
theorem dX10_beginsDay_37 : decode cX10_beginsDay 37 = .ok (.getfield 38, 3) := by decide +kernel
theorem dX10_beginsDay_40 : decode cX10_beginsDay 40 = .ok (.iload_n 1, 1) := by decide +kernel
theorem dX10_beginsDay_41 : decode cX10_beginsDay 41 = .ok (.iconst (-1), 1) := by decide +kernel
theorem dX10_beginsDay_42 : decode cX10_beginsDay 42 = .ok (.iastore, 1) := by decide +kernel
theorem dX10_beginsDay_43 : decode cX10_beginsDay 43 = .ok (.iinc 1 1, 3) := by decide +kernel
theorem dX10_beginsDay_46 : decode cX10_beginsDay 46 = .ok (.goto (-23), 3) := by decide +kernel
theorem dX10_beginsDay_49 : decode cX10_beginsDay 49 = .ok (.return_, 1) := by decide +kernel
set_option maxRecDepth 20000 in
theorem ggX10_leads_X10_beginsDay : GoodIn wsX10_leads wsX10_beginsDay := goodIn_r _ [8, 3, 2, 9, 36, 37, 38, 39, 40, 41, 42, 43, 44, 45, 46, 47, 48, 49, 50, 51, 52, 53, 54, 55, 56, 57, 58, 59, 60, 61, 62, 63] (by decide +kernel) (by decide +kernel)
set_option maxRecDepth 20000 in
theorem gX10_leads_X10_beginsDay : GoodIn wsX10_leads (wsV RX10 262 RX10 yX10_beginsDay wsX10_beginsDay) := goodIn_app (goodIn_of _ (by decide +kernel)) ggX10_leads_X10_beginsDay
set_option maxRecDepth 20000 in
theorem ggX10_leads_X10_draw : GoodIn wsX10_leads wsX10_draw := goodIn_r _ [13, 1, 14, 36, 37, 38, 39, 40, 41, 42, 43, 44, 45, 46, 47, 48, 49, 50, 51, 52, 53, 54, 55, 56, 57, 58, 59, 60, 61, 62, 63] (by decide +kernel) (by decide +kernel)
set_option maxRecDepth 20000 in
theorem gX10_leads_X10_draw : GoodIn wsX10_leads (wsV RX10 265 RX10 yX10_draw wsX10_draw) := goodIn_app (goodIn_of _ (by decide +kernel)) ggX10_leads_X10_draw
set_option maxRecDepth 20000 in
theorem ggX10_leads_X10_ofOne : GoodIn wsX10_leads wsX10_ofOne := goodIn_r _ [18, 1, 36, 37, 38, 39, 40, 41, 42, 43, 44, 45, 46, 47, 48, 49, 50, 51, 52, 53, 54, 55, 56, 57, 58, 59, 60, 61, 62, 63] (by decide +kernel) (by decide +kernel)
set_option maxRecDepth 20000 in
theorem gX10_leads_X10_ofOne : GoodIn wsX10_leads (wsV RX10 246 RX10 yX10_ofOne wsX10_ofOne) := goodIn_app (goodIn_of _ (by decide +kernel)) ggX10_leads_X10_ofOne
set_option maxRecDepth 20000 in
theorem ggX10_leads_X10_ledPast : GoodIn wsX10_leads wsX10_ledPast := goodIn_r _ [22, 1, 3, 9, 23, 24, 25, 26, 7, 27, 28, 29, 30, 31, 32, 33, 34, 35, 36, 37, 38, 39, 40, 41, 42, 43, 44, 45, 46, 47, 48, 49, 50, 51, 52, 53, 54, 55, 56, 57, 58, 59, 60, 61, 62, 63] (by decide +kernel) (by decide +kernel)
set_option maxRecDepth 20000 in
theorem gX10_leads_X10_ledPast : GoodIn wsX10_leads (wsV RX10 268 RX10 yX10_ledPast wsX10_ledPast) := goodIn_app (goodIn_of _ (by decide +kernel)) ggX10_leads_X10_ledPast
theorem dX10_leads_0 : decode cX10_leads 0 = .ok (.aload_n 0, 1) := by decide +kernel
theorem dX10_leads_1 : decode cX10_leads 1 = .ok (.invokevirtual 262, 3) := by decide +kernel
theorem dX10_leads_4 : decode cX10_leads 4 = .ok (.iconst 0, 1) := by decide +kernel
theorem dX10_leads_5 : decode cX10_leads 5 = .ok (.istore_n 2, 1) := by decide +kernel
theorem dX10_leads_6 : decode cX10_leads 6 = .ok (.iload_n 2, 1) := by decide +kernel
theorem dX10_leads_7 : decode cX10_leads 7 = .ok (.aload_n 0, 1) := by decide +kernel
theorem dX10_leads_8 : decode cX10_leads 8 = .ok (.getfield 7, 3) := by decide +kernel
theorem dX10_leads_11 : decode cX10_leads 11 = .ok (.iconst 4, 1) := by decide +kernel
theorem dX10_leads_12 : decode cX10_leads 12 = .ok (.iaload, 1) := by decide +kernel
theorem dX10_leads_13 : decode cX10_leads 13 = .ok (.if_icmp .ge 67, 3) := by decide +kernel
theorem dX10_leads_16 : decode cX10_leads 16 = .ok (.iload_n 1, 1) := by decide +kernel
theorem dX10_leads_17 : decode cX10_leads 17 = .ok (.ifCond .eq 21, 3) := by decide +kernel
theorem dX10_leads_20 : decode cX10_leads 20 = .ok (.aload_n 0, 1) := by decide +kernel
theorem dX10_leads_21 : decode cX10_leads 21 = .ok (.bipush 100, 2) := by decide +kernel
theorem dX10_leads_23 : decode cX10_leads 23 = .ok (.invokevirtual 265, 3) := by decide +kernel
theorem dX10_leads_26 : decode cX10_leads 26 = .ok (.aload_n 0, 1) := by decide +kernel
theorem dX10_leads_27 : decode cX10_leads 27 = .ok (.iload_n 2, 1) := by decide +kernel
theorem dX10_leads_28 : decode cX10_leads 28 = .ok (.iconst 3, 1) := by decide +kernel
theorem dX10_leads_29 : decode cX10_leads 29 = .ok (.invokevirtual 246, 3) := by decide +kernel
theorem dX10_leads_32 : decode cX10_leads 32 = .ok (.if_icmp .ge 6, 3) := by decide +kernel
theorem dX10_leads_35 : decode cX10_leads 35 = .ok (.goto 39, 3) := by decide +kernel
theorem dX10_leads_38 : decode cX10_leads 38 = .ok (.aload_n 0, 1) := by decide +kernel
theorem dX10_leads_39 : decode cX10_leads 39 = .ok (.getfield 35, 3) := by decide +kernel
theorem dX10_leads_42 : decode cX10_leads 42 = .ok (.iload_n 2, 1) := by decide +kernel
theorem dX10_leads_43 : decode cX10_leads 43 = .ok (.aload_n 0, 1) := by decide +kernel
theorem dX10_leads_44 : decode cX10_leads 44 = .ok (.iload_n 2, 1) := by decide +kernel
theorem dX10_leads_45 : decode cX10_leads 45 = .ok (.invokevirtual 268, 3) := by decide +kernel
theorem dX10_leads_48 : decode cX10_leads 48 = .ok (.iastore, 1) := by decide +kernel
theorem dX10_leads_49 : decode cX10_leads 49 = .ok (.aload_n 0, 1) := by decide +kernel
theorem dX10_leads_50 : decode cX10_leads 50 = .ok (.getfield 35, 3) := by decide +kernel
theorem dX10_leads_53 : decode cX10_leads 53 = .ok (.iload_n 2, 1) := by decide +kernel
theorem dX10_leads_54 : decode cX10_leads 54 = .ok (.iaload, 1) := by decide +kernel
theorem dX10_leads_55 : decode cX10_leads 55 = .ok (.iconst (-1), 1) := by decide +kernel
theorem dX10_leads_56 : decode cX10_leads 56 = .ok (.if_icmp .eq 18, 3) := by decide +kernel
theorem dX10_leads_59 : decode cX10_leads 59 = .ok (.aload_n 0, 1) := by decide +kernel
theorem dX10_leads_60 : decode cX10_leads 60 = .ok (.getfield 41, 3) := by decide +kernel
theorem dX10_leads_63 : decode cX10_leads 63 = .ok (.aload_n 0, 1) := by decide +kernel
theorem dX10_leads_64 : decode cX10_leads 64 = .ok (.getfield 35, 3) := by decide +kernel
theorem dX10_leads_67 : decode cX10_leads 67 = .ok (.iload_n 2, 1) := by decide +kernel
theorem dX10_leads_68 : decode cX10_leads 68 = .ok (.iaload, 1) := by decide +kernel
theorem dX10_leads_69 : decode cX10_leads 69 = .ok (.dup2, 1) := by decide +kernel
theorem dX10_leads_70 : decode cX10_leads 70 = .ok (.iaload, 1) := by decide +kernel
theorem dX10_leads_71 : decode cX10_leads 71 = .ok (.iconst 1, 1) := by decide +kernel
theorem dX10_leads_72 : decode cX10_leads 72 = .ok (.iadd, 1) := by decide +kernel
theorem dX10_leads_73 : decode cX10_leads 73 = .ok (.iastore, 1) := by decide +kernel
theorem dX10_leads_74 : decode cX10_leads 74 = .ok (.iinc 2 1, 3) := by decide +kernel
theorem dX10_leads_77 : decode cX10_leads 77 = .ok (.goto (-71), 3) := by decide +kernel
theorem dX10_leads_80 : decode cX10_leads 80 = .ok (.return_, 1) := by decide +kernel
theorem dX10_draw_0 : decode cX10_draw 0 = .ok (.aload_n 0, 1) := by decide +kernel
theorem dX10_draw_1 : decode cX10_draw 1 = .ok (.getfield 7, 3) := by decide +kernel
theorem dX10_draw_4 : decode cX10_draw 4 = .ok (.bipush 9, 2) := by decide +kernel
theorem dX10_draw_6 : decode cX10_draw 6 = .ok (.ldc_w 271, 3) := by decide +kernel
theorem dX10_draw_9 : decode cX10_draw 9 = .ok (.aload_n 0, 1) := by decide +kernel
theorem dX10_draw_10 : decode cX10_draw 10 = .ok (.getfield 7, 3) := by decide +kernel
theorem dX10_draw_13 : decode cX10_draw 13 = .ok (.bipush 9, 2) := by decide +kernel
theorem dX10_draw_15 : decode cX10_draw 15 = .ok (.iaload, 1) := by decide +kernel
theorem dX10_draw_16 : decode cX10_draw 16 = .ok (.imul, 1) := by decide +kernel
theorem dX10_draw_17 : decode cX10_draw 17 = .ok (.sipush 12345, 3) := by decide +kernel
theorem dX10_draw_20 : decode cX10_draw 20 = .ok (.iadd, 1) := by decide +kernel
theorem dX10_draw_21 : decode cX10_draw 21 = .ok (.iastore, 1) := by decide +kernel
theorem dX10_draw_22 : decode cX10_draw 22 = .ok (.aload_n 0, 1) := by decide +kernel
theorem dX10_draw_23 : decode cX10_draw 23 = .ok (.getfield 7, 3) := by decide +kernel
theorem dX10_draw_26 : decode cX10_draw 26 = .ok (.bipush 9, 2) := by decide +kernel
theorem dX10_draw_28 : decode cX10_draw 28 = .ok (.iaload, 1) := by decide +kernel
theorem dX10_draw_29 : decode cX10_draw 29 = .ok (.bipush 16, 2) := by decide +kernel
theorem dX10_draw_31 : decode cX10_draw 31 = .ok (.iushr, 1) := by decide +kernel
theorem dX10_draw_32 : decode cX10_draw 32 = .ok (.sipush 32767, 3) := by decide +kernel
theorem dX10_draw_35 : decode cX10_draw 35 = .ok (.iand, 1) := by decide +kernel
theorem dX10_draw_36 : decode cX10_draw 36 = .ok (.iload_n 1, 1) := by decide +kernel
theorem dX10_draw_37 : decode cX10_draw 37 = .ok (.irem, 1) := by decide +kernel
theorem dX10_draw_38 : decode cX10_draw 38 = .ok (.ireturn, 1) := by decide +kernel
set_option maxRecDepth 20000 in
theorem ggX10_goesBy_X10_asks : GoodIn wsX10_goesBy wsX10_asks := goodIn_r _ [10, 1, 3, 11, 12, 13, 9, 14, 15, 16, 17, 18, 19, 20, 21, 22, 23, 24, 25, 26, 27, 28, 29, 30, 31, 32, 33, 34, 35, 36, 37, 38, 39, 40, 41, 42, 43, 44, 45, 46, 47, 48, 49, 50, 51, 52, 53, 54, 55, 56, 57, 58, 59, 60, 61, 62, 63, 64, 65, 66, 67, 68, 69, 70, 71, 72, 73, 74, 75, 76, 77, 78, 79, 80, 81, 82, 83, 84, 85, 86, 87, 88, 89, 90, 91, 92, 93, 94, 95, 96, 97, 98, 99, 100, 101, 102, 103, 104, 105, 106, 107, 108, 109, 110, 111, 112, 113, 114, 115, 116, 117, 118, 119, 120, 121, 122, 123, 124, 125, 126, 127, 128, 129, 130, 131, 132, 133, 134, 135, 136, 137, 138, 139, 140, 141, 142, 143, 144, 145, 146, 147, 148, 149, 150, 151, 152, 153, 154, 155, 156, 157, 158, 159, 160, 161, 162, 163, 164, 165, 166, 167, 168, 169, 170, 171, 172, 173, 174, 203, 204, 205, 206, 207, 208, 209, 210, 211, 212, 213, 214, 215, 216, 217, 218, 219, 220, 221, 222, 223, 224, 225, 226, 227, 228, 229, 230] (by decide +kernel) (by decide +kernel)
set_option maxRecDepth 20000 in
theorem gX10_goesBy_X10_asks : GoodIn wsX10_goesBy (wsV RX10 272 RX10 yX10_asks wsX10_asks) := goodIn_app (goodIn_of _ (by decide +kernel)) ggX10_goesBy_X10_asks
set_option maxRecDepth 20000 in
theorem ggX10_goesBy_X10_leads : GoodIn wsX10_goesBy wsX10_leads := goodIn_r _ [178, 1, 2, 5, 179, 180, 181, 9, 182, 4, 183, 184, 185, 186, 187, 11, 12, 13, 14, 188, 189, 190, 191, 3, 28, 29, 30, 31, 192, 193, 194, 195, 196, 197, 198, 199, 203, 204, 205, 206, 207, 208, 209, 210, 211, 212, 213, 214, 215, 216, 217, 218, 219, 220, 221, 222, 223, 224, 225, 226, 227, 228, 229, 230] (by decide +kernel) (by decide +kernel)
set_option maxRecDepth 20000 in
theorem gX10_goesBy_X10_leads : GoodIn wsX10_goesBy (wsV RX10 275 RX10 yX10_leads wsX10_leads) := goodIn_app (goodIn_of _ (by decide +kernel)) ggX10_goesBy_X10_leads
set_option maxRecDepth 20000 in
theorem ggX10_goesBy_X10_lesser : GoodIn wsX10_goesBy wsX10_lesser := goodIn_r _ [202] (by decide +kernel) (by decide +kernel)
set_option maxRecDepth 20000 in
theorem gX10_goesBy_X10_lesser : GoodIn wsX10_goesBy (va_wsS RX10 279 yX10_lesser wsX10_lesser) := goodIn_app (goodIn_of _ (by decide +kernel)) ggX10_goesBy_X10_lesser
set_option maxRecDepth 20000 in
theorem ggX10_goesBy_X10_of : GoodIn wsX10_goesBy wsX10_of := goodIn_r _ [31, 1, 203, 204, 205, 206, 207, 208, 209, 210, 211, 212, 213, 214, 215, 216, 217, 218, 219, 220, 221, 222, 223, 224, 225, 226, 227, 228, 229, 230] (by decide +kernel) (by decide +kernel)
set_option maxRecDepth 20000 in
theorem gX10_goesBy_X10_of : GoodIn wsX10_goesBy (wsV RX10 70 RX10 yX10_of wsX10_of) := goodIn_app (goodIn_of _ (by decide +kernel)) ggX10_goesBy_X10_of
theorem dX10_goesBy_0 : decode cX10_goesBy 0 = .ok (.aload_n 0, 1) := by decide +kernel
theorem dX10_goesBy_1 : decode cX10_goesBy 1 = .ok (.invokevirtual 272, 3) := by decide +kernel
theorem dX10_goesBy_4 : decode cX10_goesBy 4 = .ok (.aload_n 0, 1) := by decide +kernel
theorem dX10_goesBy_5 : decode cX10_goesBy 5 = .ok (.iload_n 1, 1) := by decide +kernel
theorem dX10_goesBy_6 : decode cX10_goesBy 6 = .ok (.invokevirtual 275, 3) := by decide +kernel
theorem dX10_goesBy_9 : decode cX10_goesBy 9 = .ok (.iconst 0, 1) := by decide +kernel
theorem dX10_goesBy_10 : decode cX10_goesBy 10 = .ok (.istore_n 2, 1) := by decide +kernel
theorem dX10_goesBy_11 : decode cX10_goesBy 11 = .ok (.iconst 0, 1) := by decide +kernel
theorem dX10_goesBy_12 : decode cX10_goesBy 12 = .ok (.istore_n 3, 1) := by decide +kernel
theorem dX10_goesBy_13 : decode cX10_goesBy 13 = .ok (.iload_n 3, 1) := by decide +kernel
theorem dX10_goesBy_14 : decode cX10_goesBy 14 = .ok (.aload_n 0, 1) := by decide +kernel
theorem dX10_goesBy_15 : decode cX10_goesBy 15 = .ok (.getfield 7, 3) := by decide +kernel
theorem dX10_goesBy_18 : decode cX10_goesBy 18 = .ok (.iconst 4, 1) := by decide +kernel
theorem dX10_goesBy_19 : decode cX10_goesBy 19 = .ok (.iaload, 1) := by decide +kernel
theorem dX10_goesBy_20 : decode cX10_goesBy 20 = .ok (.if_icmp .ge 156, 3) := by decide +kernel
theorem dX10_goesBy_23 : decode cX10_goesBy 23 = .ok (.aload_n 0, 1) := by decide +kernel
theorem dX10_goesBy_24 : decode cX10_goesBy 24 = .ok (.getfield 35, 3) := by decide +kernel
theorem dX10_goesBy_27 : decode cX10_goesBy 27 = .ok (.iload_n 3, 1) := by decide +kernel
theorem dX10_goesBy_28 : decode cX10_goesBy 28 = .ok (.iaload, 1) := by decide +kernel
theorem dX10_goesBy_29 : decode cX10_goesBy 29 = .ok (.iconst (-1), 1) := by decide +kernel
theorem dX10_goesBy_30 : decode cX10_goesBy 30 = .ok (.if_icmp .ne 6, 3) := by decide +kernel
theorem dX10_goesBy_33 : decode cX10_goesBy 33 = .ok (.goto 137, 3) := by decide +kernel
theorem dX10_goesBy_36 : decode cX10_goesBy 36 = .ok (.iinc 2 1, 3) := by decide +kernel
theorem dX10_goesBy_39 : decode cX10_goesBy 39 = .ok (.sipush 299, 3) := by decide +kernel
theorem dX10_goesBy_42 : decode cX10_goesBy 42 = .ok (.istore 4, 2) := by decide +kernel
theorem dX10_goesBy_44 : decode cX10_goesBy 44 = .ok (.iload 4, 2) := by decide +kernel
theorem dX10_goesBy_46 : decode cX10_goesBy 46 = .ok (.iconst 5, 1) := by decide +kernel
theorem dX10_goesBy_47 : decode cX10_goesBy 47 = .ok (.if_icmp .lt 31, 3) := by decide +kernel
theorem dX10_goesBy_50 : decode cX10_goesBy 50 = .ok (.aload_n 0, 1) := by decide +kernel
theorem dX10_goesBy_51 : decode cX10_goesBy 51 = .ok (.getfield 7, 3) := by decide +kernel
theorem dX10_goesBy_54 : decode cX10_goesBy 54 = .ok (.bipush 107, 2) := by decide +kernel
theorem dX10_goesBy_56 : decode cX10_goesBy 56 = .ok (.iload 4, 2) := by decide +kernel
theorem dX10_goesBy_58 : decode cX10_goesBy 58 = .ok (.iadd, 1) := by decide +kernel
theorem dX10_goesBy_59 : decode cX10_goesBy 59 = .ok (.aload_n 0, 1) := by decide +kernel
theorem dX10_goesBy_60 : decode cX10_goesBy 60 = .ok (.getfield 7, 3) := by decide +kernel
theorem dX10_goesBy_63 : decode cX10_goesBy 63 = .ok (.bipush 107, 2) := by decide +kernel
theorem dX10_goesBy_65 : decode cX10_goesBy 65 = .ok (.iload 4, 2) := by decide +kernel
theorem dX10_goesBy_67 : decode cX10_goesBy 67 = .ok (.iadd, 1) := by decide +kernel
theorem dX10_goesBy_68 : decode cX10_goesBy 68 = .ok (.iconst 5, 1) := by decide +kernel
theorem dX10_goesBy_69 : decode cX10_goesBy 69 = .ok (.isub, 1) := by decide +kernel
theorem dX10_goesBy_70 : decode cX10_goesBy 70 = .ok (.iaload, 1) := by decide +kernel
theorem dX10_goesBy_71 : decode cX10_goesBy 71 = .ok (.iastore, 1) := by decide +kernel
theorem dX10_goesBy_72 : decode cX10_goesBy 72 = .ok (.iinc 4 (-1), 3) := by decide +kernel
theorem dX10_goesBy_75 : decode cX10_goesBy 75 = .ok (.goto (-31), 3) := by decide +kernel
theorem dX10_goesBy_78 : decode cX10_goesBy 78 = .ok (.aload_n 0, 1) := by decide +kernel
theorem dX10_goesBy_79 : decode cX10_goesBy 79 = .ok (.getfield 7, 3) := by decide +kernel
theorem dX10_goesBy_82 : decode cX10_goesBy 82 = .ok (.bipush 107, 2) := by decide +kernel
theorem dX10_goesBy_84 : decode cX10_goesBy 84 = .ok (.aload_n 0, 1) := by decide +kernel
theorem dX10_goesBy_85 : decode cX10_goesBy 85 = .ok (.getfield 7, 3) := by decide +kernel
theorem dX10_goesBy_88 : decode cX10_goesBy 88 = .ok (.bipush 6, 2) := by decide +kernel
theorem dX10_goesBy_90 : decode cX10_goesBy 90 = .ok (.iaload, 1) := by decide +kernel
theorem dX10_goesBy_91 : decode cX10_goesBy 91 = .ok (.iastore, 1) := by decide +kernel
theorem dX10_goesBy_92 : decode cX10_goesBy 92 = .ok (.aload_n 0, 1) := by decide +kernel
theorem dX10_goesBy_93 : decode cX10_goesBy 93 = .ok (.getfield 7, 3) := by decide +kernel
theorem dX10_goesBy_96 : decode cX10_goesBy 96 = .ok (.bipush 108, 2) := by decide +kernel
theorem dX10_goesBy_98 : decode cX10_goesBy 98 = .ok (.iload_n 3, 1) := by decide +kernel
theorem dX10_goesBy_99 : decode cX10_goesBy 99 = .ok (.iastore, 1) := by decide +kernel
theorem dX10_goesBy_100 : decode cX10_goesBy 100 = .ok (.aload_n 0, 1) := by decide +kernel
theorem dX10_goesBy_101 : decode cX10_goesBy 101 = .ok (.getfield 7, 3) := by decide +kernel
theorem dX10_goesBy_104 : decode cX10_goesBy 104 = .ok (.bipush 109, 2) := by decide +kernel
theorem dX10_goesBy_106 : decode cX10_goesBy 106 = .ok (.aload_n 0, 1) := by decide +kernel
theorem dX10_goesBy_107 : decode cX10_goesBy 107 = .ok (.getfield 35, 3) := by decide +kernel
theorem dX10_goesBy_110 : decode cX10_goesBy 110 = .ok (.iload_n 3, 1) := by decide +kernel
theorem dX10_goesBy_111 : decode cX10_goesBy 111 = .ok (.iaload, 1) := by decide +kernel
theorem dX10_goesBy_112 : decode cX10_goesBy 112 = .ok (.iastore, 1) := by decide +kernel
theorem dX10_goesBy_113 : decode cX10_goesBy 113 = .ok (.aload_n 0, 1) := by decide +kernel
theorem dX10_goesBy_114 : decode cX10_goesBy 114 = .ok (.getfield 7, 3) := by decide +kernel
theorem dX10_goesBy_117 : decode cX10_goesBy 117 = .ok (.bipush 110, 2) := by decide +kernel
theorem dX10_goesBy_119 : decode cX10_goesBy 119 = .ok (.aload_n 0, 1) := by decide +kernel
theorem dX10_goesBy_120 : decode cX10_goesBy 120 = .ok (.getfield 32, 3) := by decide +kernel
theorem dX10_goesBy_123 : decode cX10_goesBy 123 = .ok (.bipush 10, 2) := by decide +kernel
theorem dX10_goesBy_125 : decode cX10_goesBy 125 = .ok (.aload_n 0, 1) := by decide +kernel
theorem dX10_goesBy_126 : decode cX10_goesBy 126 = .ok (.getfield 35, 3) := by decide +kernel
theorem dX10_goesBy_129 : decode cX10_goesBy 129 = .ok (.iload_n 3, 1) := by decide +kernel
theorem dX10_goesBy_130 : decode cX10_goesBy 130 = .ok (.iaload, 1) := by decide +kernel
theorem dX10_goesBy_131 : decode cX10_goesBy 131 = .ok (.imul, 1) := by decide +kernel
theorem dX10_goesBy_132 : decode cX10_goesBy 132 = .ok (.iload_n 3, 1) := by decide +kernel
theorem dX10_goesBy_133 : decode cX10_goesBy 133 = .ok (.iadd, 1) := by decide +kernel
theorem dX10_goesBy_134 : decode cX10_goesBy 134 = .ok (.iaload, 1) := by decide +kernel
theorem dX10_goesBy_135 : decode cX10_goesBy 135 = .ok (.iastore, 1) := by decide +kernel
theorem dX10_goesBy_136 : decode cX10_goesBy 136 = .ok (.aload_n 0, 1) := by decide +kernel
theorem dX10_goesBy_137 : decode cX10_goesBy 137 = .ok (.getfield 7, 3) := by decide +kernel
theorem dX10_goesBy_140 : decode cX10_goesBy 140 = .ok (.bipush 111, 2) := by decide +kernel
theorem dX10_goesBy_142 : decode cX10_goesBy 142 = .ok (.aload_n 0, 1) := by decide +kernel
theorem dX10_goesBy_143 : decode cX10_goesBy 143 = .ok (.getfield 38, 3) := by decide +kernel
theorem dX10_goesBy_146 : decode cX10_goesBy 146 = .ok (.iload_n 3, 1) := by decide +kernel
theorem dX10_goesBy_147 : decode cX10_goesBy 147 = .ok (.iaload, 1) := by decide +kernel
theorem dX10_goesBy_148 : decode cX10_goesBy 148 = .ok (.iastore, 1) := by decide +kernel
theorem dX10_goesBy_149 : decode cX10_goesBy 149 = .ok (.aload_n 0, 1) := by decide +kernel
theorem dX10_goesBy_150 : decode cX10_goesBy 150 = .ok (.getfield 7, 3) := by decide +kernel
theorem dX10_goesBy_153 : decode cX10_goesBy 153 = .ok (.bipush 8, 2) := by decide +kernel
theorem dX10_goesBy_155 : decode cX10_goesBy 155 = .ok (.bipush 60, 2) := by decide +kernel
theorem dX10_goesBy_157 : decode cX10_goesBy 157 = .ok (.aload_n 0, 1) := by decide +kernel
theorem dX10_goesBy_158 : decode cX10_goesBy 158 = .ok (.getfield 7, 3) := by decide +kernel
theorem dX10_goesBy_161 : decode cX10_goesBy 161 = .ok (.bipush 8, 2) := by decide +kernel
theorem dX10_goesBy_163 : decode cX10_goesBy 163 = .ok (.iaload, 1) := by decide +kernel
theorem dX10_goesBy_164 : decode cX10_goesBy 164 = .ok (.iconst 1, 1) := by decide +kernel
theorem dX10_goesBy_165 : decode cX10_goesBy 165 = .ok (.iadd, 1) := by decide +kernel
theorem dX10_goesBy_166 : decode cX10_goesBy 166 = .ok (.invokestatic 279, 3) := by decide +kernel
theorem dX10_goesBy_169 : decode cX10_goesBy 169 = .ok (.iastore, 1) := by decide +kernel
theorem dX10_goesBy_170 : decode cX10_goesBy 170 = .ok (.iinc 3 1, 3) := by decide +kernel
theorem dX10_goesBy_173 : decode cX10_goesBy 173 = .ok (.goto (-160), 3) := by decide +kernel
theorem dX10_goesBy_176 : decode cX10_goesBy 176 = .ok (.iconst 0, 1) := by decide +kernel
theorem dX10_goesBy_177 : decode cX10_goesBy 177 = .ok (.istore_n 3, 1) := by decide +kernel
theorem dX10_goesBy_178 : decode cX10_goesBy 178 = .ok (.iload_n 3, 1) := by decide +kernel
theorem dX10_goesBy_179 : decode cX10_goesBy 179 = .ok (.aload_n 0, 1) := by decide +kernel
theorem dX10_goesBy_180 : decode cX10_goesBy 180 = .ok (.getfield 7, 3) := by decide +kernel
theorem dX10_goesBy_183 : decode cX10_goesBy 183 = .ok (.iconst 3, 1) := by decide +kernel
theorem dX10_goesBy_184 : decode cX10_goesBy 184 = .ok (.iaload, 1) := by decide +kernel
theorem dX10_goesBy_185 : decode cX10_goesBy 185 = .ok (.if_icmp .ge 58, 3) := by decide +kernel
theorem dX10_goesBy_188 : decode cX10_goesBy 188 = .ok (.aload_n 0, 1) := by decide +kernel
theorem dX10_goesBy_189 : decode cX10_goesBy 189 = .ok (.iload_n 3, 1) := by decide +kernel
theorem dX10_goesBy_190 : decode cX10_goesBy 190 = .ok (.iconst 3, 1) := by decide +kernel
theorem dX10_goesBy_191 : decode cX10_goesBy 191 = .ok (.invokevirtual 70, 3) := by decide +kernel
theorem dX10_goesBy_194 : decode cX10_goesBy 194 = .ok (.iconst 1, 1) := by decide +kernel
theorem dX10_goesBy_195 : decode cX10_goesBy 195 = .ok (.if_icmp .ne 42, 3) := by decide +kernel
theorem dX10_goesBy_198 : decode cX10_goesBy 198 = .ok (.aload_n 0, 1) := by decide +kernel
theorem dX10_goesBy_199 : decode cX10_goesBy 199 = .ok (.getfield 7, 3) := by decide +kernel
theorem dX10_goesBy_202 : decode cX10_goesBy 202 = .ok (.bipush 12, 2) := by decide +kernel
theorem dX10_goesBy_204 : decode cX10_goesBy 204 = .ok (.iconst 5, 1) := by decide +kernel
theorem dX10_goesBy_205 : decode cX10_goesBy 205 = .ok (.iload_n 3, 1) := by decide +kernel
theorem dX10_goesBy_206 : decode cX10_goesBy 206 = .ok (.imul, 1) := by decide +kernel
theorem dX10_goesBy_207 : decode cX10_goesBy 207 = .ok (.iadd, 1) := by decide +kernel
theorem dX10_goesBy_208 : decode cX10_goesBy 208 = .ok (.iconst 4, 1) := by decide +kernel
theorem dX10_goesBy_209 : decode cX10_goesBy 209 = .ok (.iadd, 1) := by decide +kernel
theorem dX10_goesBy_210 : decode cX10_goesBy 210 = .ok (.aload_n 0, 1) := by decide +kernel
theorem dX10_goesBy_211 : decode cX10_goesBy 211 = .ok (.getfield 41, 3) := by decide +kernel
theorem dX10_goesBy_214 : decode cX10_goesBy 214 = .ok (.iload_n 3, 1) := by decide +kernel
theorem dX10_goesBy_215 : decode cX10_goesBy 215 = .ok (.iaload, 1) := by decide +kernel
theorem dX10_goesBy_216 : decode cX10_goesBy 216 = .ok (.ifCond .le 7, 3) := by decide +kernel
theorem dX10_goesBy_219 : decode cX10_goesBy 219 = .ok (.iconst 0, 1) := by decide +kernel
theorem dX10_goesBy_220 : decode cX10_goesBy 220 = .ok (.goto 16, 3) := by decide +kernel
theorem dX10_goesBy_223 : decode cX10_goesBy 223 = .ok (.bipush 99, 2) := by decide +kernel
theorem dX10_goesBy_225 : decode cX10_goesBy 225 = .ok (.aload_n 0, 1) := by decide +kernel
theorem dX10_goesBy_226 : decode cX10_goesBy 226 = .ok (.iload_n 3, 1) := by decide +kernel
theorem dX10_goesBy_227 : decode cX10_goesBy 227 = .ok (.iconst 4, 1) := by decide +kernel
theorem dX10_goesBy_228 : decode cX10_goesBy 228 = .ok (.invokevirtual 70, 3) := by decide +kernel
theorem dX10_goesBy_231 : decode cX10_goesBy 231 = .ok (.iconst 1, 1) := by decide +kernel
theorem dX10_goesBy_232 : decode cX10_goesBy 232 = .ok (.iadd, 1) := by decide +kernel
theorem dX10_goesBy_233 : decode cX10_goesBy 233 = .ok (.invokestatic 279, 3) := by decide +kernel
theorem dX10_goesBy_236 : decode cX10_goesBy 236 = .ok (.iastore, 1) := by decide +kernel
theorem dX10_goesBy_237 : decode cX10_goesBy 237 = .ok (.iinc 3 1, 3) := by decide +kernel
theorem dX10_goesBy_240 : decode cX10_goesBy 240 = .ok (.goto (-62), 3) := by decide +kernel
theorem dX10_goesBy_243 : decode cX10_goesBy 243 = .ok (.aload_n 0, 1) := by decide +kernel
theorem dX10_goesBy_244 : decode cX10_goesBy 244 = .ok (.getfield 7, 3) := by decide +kernel
theorem dX10_goesBy_247 : decode cX10_goesBy 247 = .ok (.bipush 7, 2) := by decide +kernel
theorem dX10_goesBy_249 : decode cX10_goesBy 249 = .ok (.dup2, 1) := by decide +kernel
theorem dX10_goesBy_250 : decode cX10_goesBy 250 = .ok (.iaload, 1) := by decide +kernel
theorem dX10_goesBy_251 : decode cX10_goesBy 251 = .ok (.iload_n 2, 1) := by decide +kernel
theorem dX10_goesBy_252 : decode cX10_goesBy 252 = .ok (.iadd, 1) := by decide +kernel
theorem dX10_goesBy_253 : decode cX10_goesBy 253 = .ok (.iastore, 1) := by decide +kernel
theorem dX10_goesBy_254 : decode cX10_goesBy 254 = .ok (.aload_n 0, 1) := by decide +kernel
theorem dX10_goesBy_255 : decode cX10_goesBy 255 = .ok (.getfield 7, 3) := by decide +kernel
theorem dX10_goesBy_258 : decode cX10_goesBy 258 = .ok (.bipush 6, 2) := by decide +kernel
theorem dX10_goesBy_260 : decode cX10_goesBy 260 = .ok (.dup2, 1) := by decide +kernel
theorem dX10_goesBy_261 : decode cX10_goesBy 261 = .ok (.iaload, 1) := by decide +kernel
theorem dX10_goesBy_262 : decode cX10_goesBy 262 = .ok (.iconst 1, 1) := by decide +kernel
theorem dX10_goesBy_263 : decode cX10_goesBy 263 = .ok (.iadd, 1) := by decide +kernel
theorem dX10_goesBy_264 : decode cX10_goesBy 264 = .ok (.iastore, 1) := by decide +kernel
theorem dX10_goesBy_265 : decode cX10_goesBy 265 = .ok (.iload_n 2, 1) := by decide +kernel
theorem dX10_goesBy_266 : decode cX10_goesBy 266 = .ok (.ireturn, 1) := by decide +kernel
set_option maxRecDepth 20000 in
theorem ggX10_goes_X10_goesBy : GoodIn wsX10_goes wsX10_goesBy := goodIn_r _ [5, 6, 7, 8, 9, 10, 11, 12, 13, 4, 14, 15, 16, 17, 18, 19, 20, 21, 22, 23, 24, 25, 26, 27, 28, 29, 30, 31, 32, 33, 34, 35, 36, 37, 38, 39, 40, 41, 42, 43, 44, 45, 46, 47, 48, 49, 50, 51, 52, 53, 54, 55, 56, 57, 58, 59, 60, 61, 62, 63, 64, 65, 66, 67, 68, 69, 70, 71, 72, 73, 74, 75, 76, 77, 78, 79, 80, 81, 82, 83, 84, 85, 86, 87, 88, 89, 90, 91, 92, 93, 94, 95, 96, 97, 98, 99, 100, 101, 102, 103, 104, 105, 106, 107, 108, 109, 110, 111, 112, 113, 114, 115, 116, 117, 118, 119, 120, 121, 122, 123, 124, 125, 126, 127, 128, 129, 130, 131, 132, 133, 134, 135, 136, 137, 138, 139, 140, 141, 142, 143, 144, 145, 146, 147, 148, 149, 150, 151, 152, 153, 154, 155, 156, 157, 158, 159, 160, 161, 162, 163, 164, 165, 166, 167, 168, 169, 170, 171, 172, 173, 174, 175, 176, 177, 178, 179, 180, 181, 182, 183, 184, 185, 186, 187, 188, 189, 190, 191, 192, 193, 194, 195, 196, 197, 198, 199, 200, 201, 202, 203, 204, 205, 206, 207, 208, 209, 210, 211, 212, 213, 214, 215, 216, 217, 218, 219, 220, 221, 222, 223, 224, 225, 226, 227, 228, 229, 230, 231, 232, 233, 234] (by decide +kernel) (by decide +kernel)
set_option maxRecDepth 20000 in
theorem gX10_goes_X10_goesBy : GoodIn wsX10_goes (wsV RX10 282 RX10 yX10_goesBy wsX10_goesBy) := goodIn_app (goodIn_of _ (by decide +kernel)) ggX10_goes_X10_goesBy
theorem dX10_goes_0 : decode cX10_goes 0 = .ok (.iconst 0, 1) := by decide +kernel
theorem dX10_goes_1 : decode cX10_goes 1 = .ok (.istore_n 2, 1) := by decide +kernel
theorem dX10_goes_2 : decode cX10_goes 2 = .ok (.iconst 0, 1) := by decide +kernel
theorem dX10_goes_3 : decode cX10_goes 3 = .ok (.istore_n 3, 1) := by decide +kernel
theorem dX10_goes_4 : decode cX10_goes 4 = .ok (.iload_n 3, 1) := by decide +kernel
theorem dX10_goes_5 : decode cX10_goes 5 = .ok (.iload_n 1, 1) := by decide +kernel
theorem dX10_goes_6 : decode cX10_goes 6 = .ok (.if_icmp .ge 17, 3) := by decide +kernel
theorem dX10_goes_9 : decode cX10_goes 9 = .ok (.iload_n 2, 1) := by decide +kernel
theorem dX10_goes_10 : decode cX10_goes 10 = .ok (.aload_n 0, 1) := by decide +kernel
theorem dX10_goes_11 : decode cX10_goes 11 = .ok (.iconst 1, 1) := by decide +kernel
theorem dX10_goes_12 : decode cX10_goes 12 = .ok (.invokevirtual 282, 3) := by decide +kernel
theorem dX10_goes_15 : decode cX10_goes 15 = .ok (.iadd, 1) := by decide +kernel
theorem dX10_goes_16 : decode cX10_goes 16 = .ok (.istore_n 2, 1) := by decide +kernel
theorem dX10_goes_17 : decode cX10_goes 17 = .ok (.iinc 3 1, 3) := by decide +kernel
theorem dX10_goes_20 : decode cX10_goes 20 = .ok (.goto (-16), 3) := by decide +kernel
theorem dX10_goes_23 : decode cX10_goes 23 = .ok (.iload_n 2, 1) := by decide +kernel
theorem dX10_goes_24 : decode cX10_goes 24 = .ok (.ireturn, 1) := by decide +kernel
set_option maxRecDepth 20000 in
theorem ggX10_tomorrow_X10_asks : GoodIn wsX10_tomorrow wsX10_asks := goodIn_r _ [5, 6, 7, 8, 9, 10, 4, 11, 12, 13, 14, 15, 16, 17, 18, 19, 20, 21, 22, 23, 24, 25, 26, 27, 28, 29, 30, 31, 32, 33, 34, 35, 36, 37, 38, 39, 40, 41, 42, 43, 44, 45, 46, 47, 48, 49, 50, 51, 52, 53, 54, 55, 56, 57, 58, 59, 60, 61, 62, 63, 64, 65, 66, 67, 68, 69, 70, 71, 72, 73, 74, 75, 76, 77, 78, 79, 80, 81, 82, 83, 84, 85, 86, 87, 88, 89, 90, 91, 92, 93, 94, 95, 96, 97, 98, 99, 100, 101, 102, 103, 104, 105, 106, 107, 108, 109, 110, 111, 112, 113, 114, 115, 116, 117, 118, 119, 120, 121, 122, 123, 124, 125, 126, 127, 128, 129, 130, 131, 132, 133, 134, 135, 136, 137, 138, 139, 140, 141, 142, 143, 144, 145, 146, 147, 148, 149, 150, 151, 152, 153, 154, 155, 156, 157, 158, 159, 160, 161, 162, 163, 164, 165, 166, 167, 168, 169, 170, 171, 200, 201, 202, 203, 204, 205, 206, 207, 208, 209, 210, 211, 212, 213, 214, 215, 216, 217, 218, 219, 220, 221, 222, 223, 224, 225, 226, 227] (by decide +kernel) (by decide +kernel)
set_option maxRecDepth 20000 in
theorem gX10_tomorrow_X10_asks : GoodIn wsX10_tomorrow (wsV RX10 272 RX10 yX10_asks wsX10_asks) := goodIn_app (goodIn_of _ (by decide +kernel)) ggX10_tomorrow_X10_asks
set_option maxRecDepth 20000 in
theorem ggX10_tomorrow_X10_leads : GoodIn wsX10_tomorrow wsX10_leads := goodIn_r _ [175, 6, 176, 177, 178, 179, 180, 4, 181, 182, 183, 184, 185, 186, 187, 8, 9, 10, 11, 188, 189, 190, 191, 7, 25, 26, 27, 28, 192, 193, 194, 195, 196, 197, 198, 199, 200, 201, 202, 203, 204, 205, 206, 207, 208, 209, 210, 211, 212, 213, 214, 215, 216, 217, 218, 219, 220, 221, 222, 223, 224, 225, 226, 227] (by decide +kernel) (by decide +kernel)
set_option maxRecDepth 20000 in
theorem gX10_tomorrow_X10_leads : GoodIn wsX10_tomorrow (wsV RX10 275 RX10 yX10_leads wsX10_leads) := goodIn_app (goodIn_of _ (by decide +kernel)) ggX10_tomorrow_X10_leads
theorem dX10_tomorrow_0 : decode cX10_tomorrow 0 = .ok (.aload_n 0, 1) := by decide +kernel
theorem dX10_tomorrow_1 : decode cX10_tomorrow 1 = .ok (.invokevirtual 272, 3) := by decide +kernel
theorem dX10_tomorrow_4 : decode cX10_tomorrow 4 = .ok (.aload_n 0, 1) := by decide +kernel
theorem dX10_tomorrow_5 : decode cX10_tomorrow 5 = .ok (.iconst 0, 1) := by decide +kernel
theorem dX10_tomorrow_6 : decode cX10_tomorrow 6 = .ok (.invokevirtual 275, 3) := by decide +kernel
theorem dX10_tomorrow_9 : decode cX10_tomorrow 9 = .ok (.return_, 1) := by decide +kernel
theorem dX10_hadBy_0 : decode cX10_hadBy 0 = .ok (.iconst 0, 1) := by decide +kernel
theorem dX10_hadBy_1 : decode cX10_hadBy 1 = .ok (.istore_n 2, 1) := by decide +kernel
theorem dX10_hadBy_2 : decode cX10_hadBy 2 = .ok (.iconst 0, 1) := by decide +kernel
theorem dX10_hadBy_3 : decode cX10_hadBy 3 = .ok (.istore_n 3, 1) := by decide +kernel
theorem dX10_hadBy_4 : decode cX10_hadBy 4 = .ok (.iload_n 3, 1) := by decide +kernel
theorem dX10_hadBy_5 : decode cX10_hadBy 5 = .ok (.aload_n 0, 1) := by decide +kernel
theorem dX10_hadBy_6 : decode cX10_hadBy 6 = .ok (.getfield 7, 3) := by decide +kernel
theorem dX10_hadBy_9 : decode cX10_hadBy 9 = .ok (.iconst 4, 1) := by decide +kernel
theorem dX10_hadBy_10 : decode cX10_hadBy 10 = .ok (.iaload, 1) := by decide +kernel
theorem dX10_hadBy_11 : decode cX10_hadBy 11 = .ok (.if_icmp .ge 29, 3) := by decide +kernel
theorem dX10_hadBy_14 : decode cX10_hadBy 14 = .ok (.iload_n 2, 1) := by decide +kernel
theorem dX10_hadBy_15 : decode cX10_hadBy 15 = .ok (.aload_n 0, 1) := by decide +kernel
theorem dX10_hadBy_16 : decode cX10_hadBy 16 = .ok (.getfield 35, 3) := by decide +kernel
theorem dX10_hadBy_19 : decode cX10_hadBy 19 = .ok (.iload_n 3, 1) := by decide +kernel
theorem dX10_hadBy_20 : decode cX10_hadBy 20 = .ok (.iaload, 1) := by decide +kernel
theorem dX10_hadBy_21 : decode cX10_hadBy 21 = .ok (.iload_n 1, 1) := by decide +kernel
theorem dX10_hadBy_22 : decode cX10_hadBy 22 = .ok (.if_icmp .ne 9, 3) := by decide +kernel
theorem dX10_hadBy_25 : decode cX10_hadBy 25 = .ok (.iconst 1, 1) := by decide +kernel
theorem dX10_hadBy_26 : decode cX10_hadBy 26 = .ok (.iload_n 3, 1) := by decide +kernel
theorem dX10_hadBy_27 : decode cX10_hadBy 27 = .ok (.ishl, 1) := by decide +kernel
theorem dX10_hadBy_28 : decode cX10_hadBy 28 = .ok (.goto 4, 3) := by decide +kernel
theorem dX10_hadBy_31 : decode cX10_hadBy 31 = .ok (.iconst 0, 1) := by decide +kernel
theorem dX10_hadBy_32 : decode cX10_hadBy 32 = .ok (.ior, 1) := by decide +kernel
theorem dX10_hadBy_33 : decode cX10_hadBy 33 = .ok (.istore_n 2, 1) := by decide +kernel
theorem dX10_hadBy_34 : decode cX10_hadBy 34 = .ok (.iinc 3 1, 3) := by decide +kernel
theorem dX10_hadBy_37 : decode cX10_hadBy 37 = .ok (.goto (-33), 3) := by decide +kernel
theorem dX10_hadBy_40 : decode cX10_hadBy 40 = .ok (.iload_n 2, 1) := by decide +kernel
theorem dX10_hadBy_41 : decode cX10_hadBy 41 = .ok (.ireturn, 1) := by decide +kernel
theorem dX10_hadNow_0 : decode cX10_hadNow 0 = .ok (.iconst 0, 1) := by decide +kernel
theorem dX10_hadNow_1 : decode cX10_hadNow 1 = .ok (.istore_n 1, 1) := by decide +kernel
theorem dX10_hadNow_2 : decode cX10_hadNow 2 = .ok (.iconst 0, 1) := by decide +kernel
theorem dX10_hadNow_3 : decode cX10_hadNow 3 = .ok (.istore_n 2, 1) := by decide +kernel
theorem dX10_hadNow_4 : decode cX10_hadNow 4 = .ok (.iload_n 2, 1) := by decide +kernel
theorem dX10_hadNow_5 : decode cX10_hadNow 5 = .ok (.aload_n 0, 1) := by decide +kernel
theorem dX10_hadNow_6 : decode cX10_hadNow 6 = .ok (.getfield 7, 3) := by decide +kernel
theorem dX10_hadNow_9 : decode cX10_hadNow 9 = .ok (.iconst 4, 1) := by decide +kernel
theorem dX10_hadNow_10 : decode cX10_hadNow 10 = .ok (.iaload, 1) := by decide +kernel
theorem dX10_hadNow_11 : decode cX10_hadNow 11 = .ok (.if_icmp .ge 29, 3) := by decide +kernel
theorem dX10_hadNow_14 : decode cX10_hadNow 14 = .ok (.iload_n 1, 1) := by decide +kernel
theorem dX10_hadNow_15 : decode cX10_hadNow 15 = .ok (.aload_n 0, 1) := by decide +kernel
theorem dX10_hadNow_16 : decode cX10_hadNow 16 = .ok (.getfield 35, 3) := by decide +kernel
theorem dX10_hadNow_19 : decode cX10_hadNow 19 = .ok (.iload_n 2, 1) := by decide +kernel
theorem dX10_hadNow_20 : decode cX10_hadNow 20 = .ok (.iaload, 1) := by decide +kernel
theorem dX10_hadNow_21 : decode cX10_hadNow 21 = .ok (.iconst (-1), 1) := by decide +kernel
theorem dX10_hadNow_22 : decode cX10_hadNow 22 = .ok (.if_icmp .eq 9, 3) := by decide +kernel
theorem dX10_hadNow_25 : decode cX10_hadNow 25 = .ok (.iconst 1, 1) := by decide +kernel
theorem dX10_hadNow_26 : decode cX10_hadNow 26 = .ok (.iload_n 2, 1) := by decide +kernel
theorem dX10_hadNow_27 : decode cX10_hadNow 27 = .ok (.ishl, 1) := by decide +kernel
theorem dX10_hadNow_28 : decode cX10_hadNow 28 = .ok (.goto 4, 3) := by decide +kernel
theorem dX10_hadNow_31 : decode cX10_hadNow 31 = .ok (.iconst 0, 1) := by decide +kernel
theorem dX10_hadNow_32 : decode cX10_hadNow 32 = .ok (.ior, 1) := by decide +kernel
theorem dX10_hadNow_33 : decode cX10_hadNow 33 = .ok (.istore_n 1, 1) := by decide +kernel
theorem dX10_hadNow_34 : decode cX10_hadNow 34 = .ok (.iinc 2 1, 3) := by decide +kernel
theorem dX10_hadNow_37 : decode cX10_hadNow 37 = .ok (.goto (-33), 3) := by decide +kernel
theorem dX10_hadNow_40 : decode cX10_hadNow 40 = .ok (.iload_n 1, 1) := by decide +kernel
theorem dX10_hadNow_41 : decode cX10_hadNow 41 = .ok (.ireturn, 1) := by decide +kernel
set_option maxRecDepth 20000 in
theorem ggX10_ringsFor_X10_canHave : GoodIn wsX10_ringsFor wsX10_canHave := goodIn_r _ [6, 7, 8, 9, 10, 5, 11, 12, 13, 14, 15, 1, 16, 17, 18, 19, 20, 21, 22, 23, 24, 25, 26, 27, 28, 29, 30, 31, 32, 33, 34, 35, 36, 37, 38, 39, 40, 41, 42, 43] (by decide +kernel) (by decide +kernel)
set_option maxRecDepth 20000 in
theorem gX10_ringsFor_X10_canHave : GoodIn wsX10_ringsFor (wsV RX10 259 RX10 yX10_canHave wsX10_canHave) := goodIn_app (goodIn_of _ (by decide +kernel)) ggX10_ringsFor_X10_canHave
theorem dX10_ringsFor_0 : decode cX10_ringsFor 0 = .ok (.iconst 0, 1) := by decide +kernel
theorem dX10_ringsFor_1 : decode cX10_ringsFor 1 = .ok (.istore_n 2, 1) := by decide +kernel
theorem dX10_ringsFor_2 : decode cX10_ringsFor 2 = .ok (.iconst 0, 1) := by decide +kernel
theorem dX10_ringsFor_3 : decode cX10_ringsFor 3 = .ok (.istore_n 3, 1) := by decide +kernel
theorem dX10_ringsFor_4 : decode cX10_ringsFor 4 = .ok (.iload_n 3, 1) := by decide +kernel
theorem dX10_ringsFor_5 : decode cX10_ringsFor 5 = .ok (.aload_n 0, 1) := by decide +kernel
theorem dX10_ringsFor_6 : decode cX10_ringsFor 6 = .ok (.getfield 7, 3) := by decide +kernel
theorem dX10_ringsFor_9 : decode cX10_ringsFor 9 = .ok (.iconst 4, 1) := by decide +kernel
theorem dX10_ringsFor_10 : decode cX10_ringsFor 10 = .ok (.iaload, 1) := by decide +kernel
theorem dX10_ringsFor_11 : decode cX10_ringsFor 11 = .ok (.if_icmp .ge 28, 3) := by decide +kernel
theorem dX10_ringsFor_14 : decode cX10_ringsFor 14 = .ok (.iload_n 2, 1) := by decide +kernel
theorem dX10_ringsFor_15 : decode cX10_ringsFor 15 = .ok (.aload_n 0, 1) := by decide +kernel
theorem dX10_ringsFor_16 : decode cX10_ringsFor 16 = .ok (.iload_n 1, 1) := by decide +kernel
theorem dX10_ringsFor_17 : decode cX10_ringsFor 17 = .ok (.iload_n 3, 1) := by decide +kernel
theorem dX10_ringsFor_18 : decode cX10_ringsFor 18 = .ok (.invokevirtual 259, 3) := by decide +kernel
theorem dX10_ringsFor_21 : decode cX10_ringsFor 21 = .ok (.ifCond .eq 9, 3) := by decide +kernel
theorem dX10_ringsFor_24 : decode cX10_ringsFor 24 = .ok (.iconst 1, 1) := by decide +kernel
theorem dX10_ringsFor_25 : decode cX10_ringsFor 25 = .ok (.iload_n 3, 1) := by decide +kernel
theorem dX10_ringsFor_26 : decode cX10_ringsFor 26 = .ok (.ishl, 1) := by decide +kernel
theorem dX10_ringsFor_27 : decode cX10_ringsFor 27 = .ok (.goto 4, 3) := by decide +kernel
theorem dX10_ringsFor_30 : decode cX10_ringsFor 30 = .ok (.iconst 0, 1) := by decide +kernel
theorem dX10_ringsFor_31 : decode cX10_ringsFor 31 = .ok (.ior, 1) := by decide +kernel
theorem dX10_ringsFor_32 : decode cX10_ringsFor 32 = .ok (.istore_n 2, 1) := by decide +kernel
theorem dX10_ringsFor_33 : decode cX10_ringsFor 33 = .ok (.iinc 3 1, 3) := by decide +kernel
theorem dX10_ringsFor_36 : decode cX10_ringsFor 36 = .ok (.goto (-32), 3) := by decide +kernel
theorem dX10_ringsFor_39 : decode cX10_ringsFor 39 = .ok (.iload_n 2, 1) := by decide +kernel
theorem dX10_ringsFor_40 : decode cX10_ringsFor 40 = .ok (.ireturn, 1) := by decide +kernel
set_option maxRecDepth 20000 in
theorem ggX10_envy_X10_greater : GoodIn wsX10_envy wsX10_greater := goodIn_r _ [7] (by decide +kernel) (by decide +kernel)
set_option maxRecDepth 20000 in
theorem gX10_envy_X10_greater : GoodIn wsX10_envy (va_wsS RX10 249 yX10_greater wsX10_greater) := goodIn_app (goodIn_of _ (by decide +kernel)) ggX10_envy_X10_greater
set_option maxRecDepth 20000 in
theorem ggX10_envy_X10_canHave : GoodIn wsX10_envy wsX10_canHave := goodIn_r _ [11, 3, 12, 13, 14, 6, 15, 16, 17, 18, 19, 1, 20, 21, 22, 23, 24, 25, 26, 27, 28, 29, 30, 31, 32, 33, 34, 35, 36, 37, 38, 39, 40, 41, 42, 43, 44, 45, 46, 47] (by decide +kernel) (by decide +kernel)
set_option maxRecDepth 20000 in
theorem gX10_envy_X10_canHave : GoodIn wsX10_envy (wsV RX10 259 RX10 yX10_canHave wsX10_canHave) := goodIn_app (goodIn_of _ (by decide +kernel)) ggX10_envy_X10_canHave
theorem dX10_envy_0 : decode cX10_envy 0 = .ok (.iconst (-1), 1) := by decide +kernel
theorem dX10_envy_1 : decode cX10_envy 1 = .ok (.istore_n 2, 1) := by decide +kernel
theorem dX10_envy_2 : decode cX10_envy 2 = .ok (.iconst 0, 1) := by decide +kernel
theorem dX10_envy_3 : decode cX10_envy 3 = .ok (.istore_n 3, 1) := by decide +kernel
theorem dX10_envy_4 : decode cX10_envy 4 = .ok (.iload_n 3, 1) := by decide +kernel
theorem dX10_envy_5 : decode cX10_envy 5 = .ok (.aload_n 0, 1) := by decide +kernel
theorem dX10_envy_6 : decode cX10_envy 6 = .ok (.getfield 7, 3) := by decide +kernel
theorem dX10_envy_9 : decode cX10_envy 9 = .ok (.iconst 4, 1) := by decide +kernel
theorem dX10_envy_10 : decode cX10_envy 10 = .ok (.iaload, 1) := by decide +kernel
theorem dX10_envy_11 : decode cX10_envy 11 = .ok (.if_icmp .ge 35, 3) := by decide +kernel
theorem dX10_envy_14 : decode cX10_envy 14 = .ok (.aload_n 0, 1) := by decide +kernel
theorem dX10_envy_15 : decode cX10_envy 15 = .ok (.getfield 35, 3) := by decide +kernel
theorem dX10_envy_18 : decode cX10_envy 18 = .ok (.iload_n 3, 1) := by decide +kernel
theorem dX10_envy_19 : decode cX10_envy 19 = .ok (.iaload, 1) := by decide +kernel
theorem dX10_envy_20 : decode cX10_envy 20 = .ok (.iload_n 1, 1) := by decide +kernel
theorem dX10_envy_21 : decode cX10_envy 21 = .ok (.if_icmp .ne 19, 3) := by decide +kernel
theorem dX10_envy_24 : decode cX10_envy 24 = .ok (.iload_n 2, 1) := by decide +kernel
theorem dX10_envy_25 : decode cX10_envy 25 = .ok (.aload_n 0, 1) := by decide +kernel
theorem dX10_envy_26 : decode cX10_envy 26 = .ok (.getfield 32, 3) := by decide +kernel
theorem dX10_envy_29 : decode cX10_envy 29 = .ok (.bipush 10, 2) := by decide +kernel
theorem dX10_envy_31 : decode cX10_envy 31 = .ok (.iload_n 1, 1) := by decide +kernel
theorem dX10_envy_32 : decode cX10_envy 32 = .ok (.imul, 1) := by decide +kernel
theorem dX10_envy_33 : decode cX10_envy 33 = .ok (.iload_n 3, 1) := by decide +kernel
theorem dX10_envy_34 : decode cX10_envy 34 = .ok (.iadd, 1) := by decide +kernel
theorem dX10_envy_35 : decode cX10_envy 35 = .ok (.iaload, 1) := by decide +kernel
theorem dX10_envy_36 : decode cX10_envy 36 = .ok (.invokestatic 249, 3) := by decide +kernel
theorem dX10_envy_39 : decode cX10_envy 39 = .ok (.istore_n 2, 1) := by decide +kernel
theorem dX10_envy_40 : decode cX10_envy 40 = .ok (.iinc 3 1, 3) := by decide +kernel
theorem dX10_envy_43 : decode cX10_envy 43 = .ok (.goto (-39), 3) := by decide +kernel
theorem dX10_envy_46 : decode cX10_envy 46 = .ok (.iconst 0, 1) := by decide +kernel
theorem dX10_envy_47 : decode cX10_envy 47 = .ok (.istore_n 3, 1) := by decide +kernel
theorem dX10_envy_48 : decode cX10_envy 48 = .ok (.iconst 0, 1) := by decide +kernel
theorem dX10_envy_49 : decode cX10_envy 49 = .ok (.istore 4, 2) := by decide +kernel
theorem dX10_envy_51 : decode cX10_envy 51 = .ok (.iload 4, 2) := by decide +kernel
theorem dX10_envy_53 : decode cX10_envy 53 = .ok (.aload_n 0, 1) := by decide +kernel
theorem dX10_envy_54 : decode cX10_envy 54 = .ok (.getfield 7, 3) := by decide +kernel
theorem dX10_envy_57 : decode cX10_envy 57 = .ok (.iconst 4, 1) := by decide +kernel
theorem dX10_envy_58 : decode cX10_envy 58 = .ok (.iaload, 1) := by decide +kernel
theorem dX10_envy_59 : decode cX10_envy 59 = .ok (.if_icmp .ge 68, 3) := by decide +kernel
theorem dX10_envy_62 : decode cX10_envy 62 = .ok (.iload_n 3, 1) := by decide +kernel
theorem dX10_envy_63 : decode cX10_envy 63 = .ok (.aload_n 0, 1) := by decide +kernel
theorem dX10_envy_64 : decode cX10_envy 64 = .ok (.getfield 35, 3) := by decide +kernel
theorem dX10_envy_67 : decode cX10_envy 67 = .ok (.iload 4, 2) := by decide +kernel
theorem dX10_envy_69 : decode cX10_envy 69 = .ok (.iaload, 1) := by decide +kernel
theorem dX10_envy_70 : decode cX10_envy 70 = .ok (.iconst (-1), 1) := by decide +kernel
theorem dX10_envy_71 : decode cX10_envy 71 = .ok (.if_icmp .eq 47, 3) := by decide +kernel
theorem dX10_envy_74 : decode cX10_envy 74 = .ok (.aload_n 0, 1) := by decide +kernel
theorem dX10_envy_75 : decode cX10_envy 75 = .ok (.getfield 35, 3) := by decide +kernel
theorem dX10_envy_78 : decode cX10_envy 78 = .ok (.iload 4, 2) := by decide +kernel
theorem dX10_envy_80 : decode cX10_envy 80 = .ok (.iaload, 1) := by decide +kernel
theorem dX10_envy_81 : decode cX10_envy 81 = .ok (.iload_n 1, 1) := by decide +kernel
theorem dX10_envy_82 : decode cX10_envy 82 = .ok (.if_icmp .eq 36, 3) := by decide +kernel
theorem dX10_envy_85 : decode cX10_envy 85 = .ok (.aload_n 0, 1) := by decide +kernel
theorem dX10_envy_86 : decode cX10_envy 86 = .ok (.iload_n 1, 1) := by decide +kernel
theorem dX10_envy_87 : decode cX10_envy 87 = .ok (.iload 4, 2) := by decide +kernel
theorem dX10_envy_89 : decode cX10_envy 89 = .ok (.invokevirtual 259, 3) := by decide +kernel
theorem dX10_envy_92 : decode cX10_envy 92 = .ok (.ifCond .eq 26, 3) := by decide +kernel
theorem dX10_envy_95 : decode cX10_envy 95 = .ok (.aload_n 0, 1) := by decide +kernel
theorem dX10_envy_96 : decode cX10_envy 96 = .ok (.getfield 32, 3) := by decide +kernel
theorem dX10_envy_99 : decode cX10_envy 99 = .ok (.bipush 10, 2) := by decide +kernel
theorem dX10_envy_101 : decode cX10_envy 101 = .ok (.iload_n 1, 1) := by decide +kernel
theorem dX10_envy_102 : decode cX10_envy 102 = .ok (.imul, 1) := by decide +kernel
theorem dX10_envy_103 : decode cX10_envy 103 = .ok (.iload 4, 2) := by decide +kernel
theorem dX10_envy_105 : decode cX10_envy 105 = .ok (.iadd, 1) := by decide +kernel
theorem dX10_envy_106 : decode cX10_envy 106 = .ok (.iaload, 1) := by decide +kernel
theorem dX10_envy_107 : decode cX10_envy 107 = .ok (.iload_n 2, 1) := by decide +kernel
theorem dX10_envy_108 : decode cX10_envy 108 = .ok (.if_icmp .le 10, 3) := by decide +kernel
theorem dX10_envy_111 : decode cX10_envy 111 = .ok (.iconst 1, 1) := by decide +kernel
theorem dX10_envy_112 : decode cX10_envy 112 = .ok (.iload 4, 2) := by decide +kernel
theorem dX10_envy_114 : decode cX10_envy 114 = .ok (.ishl, 1) := by decide +kernel
theorem dX10_envy_115 : decode cX10_envy 115 = .ok (.goto 4, 3) := by decide +kernel
theorem dX10_envy_118 : decode cX10_envy 118 = .ok (.iconst 0, 1) := by decide +kernel
theorem dX10_envy_119 : decode cX10_envy 119 = .ok (.ior, 1) := by decide +kernel
theorem dX10_envy_120 : decode cX10_envy 120 = .ok (.istore_n 3, 1) := by decide +kernel
theorem dX10_envy_121 : decode cX10_envy 121 = .ok (.iinc 4 1, 3) := by decide +kernel
theorem dX10_envy_124 : decode cX10_envy 124 = .ok (.goto (-73), 3) := by decide +kernel
theorem dX10_envy_127 : decode cX10_envy 127 = .ok (.iload_n 3, 1) := by decide +kernel
theorem dX10_envy_128 : decode cX10_envy 128 = .ok (.ireturn, 1) := by decide +kernel
set_option maxRecDepth 20000 in
theorem ggX10_thing_X10_isThing : GoodIn wsX10_thing wsX10_isThing := goodIn_r _ [6, 7, 8, 9, 5, 10, 221, 222, 223, 224, 225, 226, 227, 228, 229, 230, 231, 232, 233, 234, 235, 236, 237, 238, 239, 240, 241, 242, 243, 244, 245, 246, 247, 248] (by decide +kernel) (by decide +kernel)
set_option maxRecDepth 20000 in
theorem gX10_thing_X10_isThing : GoodIn wsX10_thing (wsV RX10 285 RX10 yX10_isThing wsX10_isThing) := goodIn_app (goodIn_of _ (by decide +kernel)) ggX10_thing_X10_isThing
set_option maxRecDepth 20000 in
theorem ggX10_thing_X10_isIn : GoodIn wsX10_thing wsX10_isIn := goodIn_r _ [10] (by decide +kernel) (by decide +kernel)
set_option maxRecDepth 20000 in
theorem gX10_thing_X10_isIn : GoodIn wsX10_thing (va_wsS RX10 66 yX10_isIn wsX10_isIn) := goodIn_app (goodIn_of _ (by decide +kernel)) ggX10_thing_X10_isIn
set_option maxRecDepth 20000 in
theorem ggX10_thing_X10_of : GoodIn wsX10_thing wsX10_of := goodIn_r _ [14, 7, 221, 222, 223, 224, 225, 226, 227, 228, 229, 230, 231, 232, 233, 234, 235, 236, 237, 238, 239, 240, 241, 242, 243, 244, 245, 246, 247, 248] (by decide +kernel) (by decide +kernel)
set_option maxRecDepth 20000 in
theorem gX10_thing_X10_of : GoodIn wsX10_thing (wsV RX10 70 RX10 yX10_of wsX10_of) := goodIn_app (goodIn_of _ (by decide +kernel)) ggX10_thing_X10_of
set_option maxRecDepth 20000 in
theorem ggX10_thing_X10_tomorrow : GoodIn wsX10_thing wsX10_tomorrow := goodIn_r _ [18, 19, 20, 21, 5, 22, 7, 23, 24, 25, 26, 27, 28, 29, 30, 31, 32, 33, 34, 35, 36, 37, 38, 39, 40, 11, 12, 13, 14, 41, 42, 43, 44, 45, 46, 47, 48, 49, 50, 51, 52, 53, 54, 55, 56, 57, 58, 59, 60, 61, 62, 63, 64, 65, 8, 9, 10, 66, 67, 68, 69, 70, 71, 72, 73, 74, 75, 76, 77, 78, 79, 80, 81, 82, 83, 84, 85, 86, 87, 88, 89, 90, 91, 92, 93, 94, 95, 96, 97, 98, 99, 100, 101, 102, 103, 104, 105, 106, 107, 108, 109, 110, 111, 112, 113, 114, 115, 116, 117, 118, 119, 120, 121, 122, 123, 124, 125, 126, 127, 128, 129, 130, 131, 132, 133, 134, 135, 136, 137, 138, 139, 140, 141, 142, 143, 144, 145, 146, 147, 148, 149, 150, 151, 152, 153, 154, 155, 156, 157, 158, 159, 160, 161, 162, 163, 164, 165, 166, 167, 168, 169, 170, 171, 172, 173, 174, 175, 176, 177, 178, 179, 180, 181, 182, 183, 184, 185, 186, 187, 188, 189, 190, 191, 192, 193, 194, 195, 196, 197, 198, 199, 200, 201, 202, 203, 204, 205, 206, 207, 208, 221, 222, 223, 224, 225, 226, 227, 228, 229, 230, 231, 232, 233, 234, 235, 236, 237, 238, 239, 240, 241, 242, 243, 244, 245, 246, 247, 248] (by decide +kernel) (by decide +kernel)
set_option maxRecDepth 20000 in
theorem gX10_thing_X10_tomorrow : GoodIn wsX10_thing (wsV RX10 288 RX10 yX10_tomorrow wsX10_tomorrow) := goodIn_app (goodIn_of _ (by decide +kernel)) ggX10_thing_X10_tomorrow
set_option maxRecDepth 20000 in
theorem ggX10_thing_X10_ringsFor : GoodIn wsX10_thing wsX10_ringsFor := goodIn_r _ [212, 7, 201, 202, 203, 5, 204, 23, 205, 206, 207, 208, 11, 12, 13, 14, 221, 222, 223, 224, 225, 226, 227, 228, 229, 230, 231, 232, 233, 234, 235, 236, 237, 238, 239, 240, 241, 242, 243, 244, 245, 246, 247, 248] (by decide +kernel) (by decide +kernel)
set_option maxRecDepth 20000 in
theorem gX10_thing_X10_ringsFor : GoodIn wsX10_thing (wsV RX10 291 RX10 yX10_ringsFor wsX10_ringsFor) := goodIn_app (goodIn_of _ (by decide +kernel)) ggX10_thing_X10_ringsFor
set_option maxRecDepth 20000 in
theorem ggX10_thing_X10_hadBy : GoodIn wsX10_thing wsX10_hadBy := goodIn_r _ [216, 7, 185, 221, 222, 223, 224, 225, 226, 227, 228, 229, 230, 231, 232, 233, 234, 235, 236, 237, 238, 239, 240, 241, 242, 243, 244, 245, 246, 247, 248] (by decide +kernel) (by decide +kernel)
set_option maxRecDepth 20000 in
theorem gX10_thing_X10_hadBy : GoodIn wsX10_thing (wsV RX10 294 RX10 yX10_hadBy wsX10_hadBy) := goodIn_app (goodIn_of _ (by decide +kernel)) ggX10_thing_X10_hadBy
set_option maxRecDepth 20000 in
theorem ggX10_thing_X10_envy : GoodIn wsX10_thing wsX10_envy := goodIn_r _ [220, 7, 185, 23, 178, 179, 5, 180, 201, 202, 203, 204, 205, 206, 207, 208, 11, 12, 13, 14, 221, 222, 223, 224, 225, 226, 227, 228, 229, 230, 231, 232, 233, 234, 235, 236, 237, 238, 239, 240, 241, 242, 243, 244, 245, 246, 247, 248] (by decide +kernel) (by decide +kernel)
set_option maxRecDepth 20000 in
theorem gX10_thing_X10_envy : GoodIn wsX10_thing (wsV RX10 297 RX10 yX10_envy wsX10_envy) := goodIn_app (goodIn_of _ (by decide +kernel)) ggX10_thing_X10_envy
theorem dX10_thing_0 : decode cX10_thing 0 = .ok (.aload_n 0, 1) := by decide +kernel
theorem dX10_thing_1 : decode cX10_thing 1 = .ok (.aload_n 0, 1) := by decide +kernel
theorem dX10_thing_2 : decode cX10_thing 2 = .ok (.iload_n 1, 1) := by decide +kernel
theorem dX10_thing_3 : decode cX10_thing 3 = .ok (.invokevirtual 285, 3) := by decide +kernel
theorem dX10_thing_6 : decode cX10_thing 6 = .ok (.ifCond .ne 7, 3) := by decide +kernel
theorem dX10_thing_9 : decode cX10_thing 9 = .ok (.iconst 1, 1) := by decide +kernel
theorem dX10_thing_10 : decode cX10_thing 10 = .ok (.goto 18, 3) := by decide +kernel
theorem dX10_thing_13 : decode cX10_thing 13 = .ok (.iload_n 2, 1) := by decide +kernel
theorem dX10_thing_14 : decode cX10_thing 14 = .ok (.iconst 0, 1) := by decide +kernel
theorem dX10_thing_15 : decode cX10_thing 15 = .ok (.bipush 7, 2) := by decide +kernel
theorem dX10_thing_17 : decode cX10_thing 17 = .ok (.invokestatic 66, 3) := by decide +kernel
theorem dX10_thing_20 : decode cX10_thing 20 = .ok (.ifCond .ne 7, 3) := by decide +kernel
theorem dX10_thing_23 : decode cX10_thing 23 = .ok (.iconst 2, 1) := by decide +kernel
theorem dX10_thing_24 : decode cX10_thing 24 = .ok (.goto 4, 3) := by decide +kernel
theorem dX10_thing_27 : decode cX10_thing 27 = .ok (.iconst 0, 1) := by decide +kernel
theorem dX10_thing_28 : decode cX10_thing 28 = .ok (.putfield 63, 3) := by decide +kernel
theorem dX10_thing_31 : decode cX10_thing 31 = .ok (.aload_n 0, 1) := by decide +kernel
theorem dX10_thing_32 : decode cX10_thing 32 = .ok (.getfield 63, 3) := by decide +kernel
theorem dX10_thing_35 : decode cX10_thing 35 = .ok (.ifCond .le 5, 3) := by decide +kernel
theorem dX10_thing_38 : decode cX10_thing 38 = .ok (.iconst 0, 1) := by decide +kernel
theorem dX10_thing_39 : decode cX10_thing 39 = .ok (.ireturn, 1) := by decide +kernel
theorem dX10_thing_40 : decode cX10_thing 40 = .ok (.iload_n 2, 1) := by decide +kernel
theorem dX10_thing_41 : decode cX10_thing 41 = .ok (.iconst 5, 1) := by decide +kernel
theorem dX10_thing_42 : decode cX10_thing 42 = .ok (.if_icmp .ge 10, 3) := by decide +kernel
theorem dX10_thing_45 : decode cX10_thing 45 = .ok (.aload_n 0, 1) := by decide +kernel
theorem dX10_thing_46 : decode cX10_thing 46 = .ok (.iload_n 1, 1) := by decide +kernel
theorem dX10_thing_47 : decode cX10_thing 47 = .ok (.iload_n 2, 1) := by decide +kernel
theorem dX10_thing_48 : decode cX10_thing 48 = .ok (.invokevirtual 70, 3) := by decide +kernel
theorem dX10_thing_51 : decode cX10_thing 51 = .ok (.ireturn, 1) := by decide +kernel
theorem dX10_thing_52 : decode cX10_thing 52 = .ok (.aload_n 0, 1) := by decide +kernel
theorem dX10_thing_53 : decode cX10_thing 53 = .ok (.invokevirtual 288, 3) := by decide +kernel
theorem dX10_thing_56 : decode cX10_thing 56 = .ok (.iload_n 2, 1) := by decide +kernel
theorem dX10_thing_57 : decode cX10_thing 57 = .ok (.iconst 5, 1) := by decide +kernel
theorem dX10_thing_58 : decode cX10_thing 58 = .ok (.if_icmp .ne 11, 3) := by decide +kernel
theorem dX10_thing_61 : decode cX10_thing 61 = .ok (.aload_n 0, 1) := by decide +kernel
theorem dX10_thing_62 : decode cX10_thing 62 = .ok (.iload_n 1, 1) := by decide +kernel
theorem dX10_thing_63 : decode cX10_thing 63 = .ok (.invokevirtual 291, 3) := by decide +kernel
theorem dX10_thing_66 : decode cX10_thing 66 = .ok (.goto 22, 3) := by decide +kernel
theorem dX10_thing_69 : decode cX10_thing 69 = .ok (.iload_n 2, 1) := by decide +kernel
theorem dX10_thing_70 : decode cX10_thing 70 = .ok (.bipush 6, 2) := by decide +kernel
theorem dX10_thing_72 : decode cX10_thing 72 = .ok (.if_icmp .ne 11, 3) := by decide +kernel
theorem dX10_thing_75 : decode cX10_thing 75 = .ok (.aload_n 0, 1) := by decide +kernel
theorem dX10_thing_76 : decode cX10_thing 76 = .ok (.iload_n 1, 1) := by decide +kernel
theorem dX10_thing_77 : decode cX10_thing 77 = .ok (.invokevirtual 294, 3) := by decide +kernel
theorem dX10_thing_80 : decode cX10_thing 80 = .ok (.goto 8, 3) := by decide +kernel
theorem dX10_thing_83 : decode cX10_thing 83 = .ok (.aload_n 0, 1) := by decide +kernel
theorem dX10_thing_84 : decode cX10_thing 84 = .ok (.iload_n 1, 1) := by decide +kernel
theorem dX10_thing_85 : decode cX10_thing 85 = .ok (.invokevirtual 297, 3) := by decide +kernel
theorem dX10_thing_88 : decode cX10_thing 88 = .ok (.ireturn, 1) := by decide +kernel
set_option maxRecDepth 20000 in
theorem ggX10_ringing_X10_canHave : GoodIn wsX10_ringing wsX10_canHave := goodIn_r _ [6, 7, 8, 9, 10, 5, 11, 12, 13, 14, 15, 1, 16, 17, 18, 19, 20, 21, 22, 23, 24, 25, 26, 27, 28, 29, 30, 31, 32, 33, 34, 35, 36, 37, 38, 39, 40, 41, 42, 43] (by decide +kernel) (by decide +kernel)
set_option maxRecDepth 20000 in
theorem gX10_ringing_X10_canHave : GoodIn wsX10_ringing (wsV RX10 259 RX10 yX10_canHave wsX10_canHave) := goodIn_app (goodIn_of _ (by decide +kernel)) ggX10_ringing_X10_canHave
theorem dX10_ringing_0 : decode cX10_ringing 0 = .ok (.iconst 0, 1) := by decide +kernel
theorem dX10_ringing_1 : decode cX10_ringing 1 = .ok (.istore_n 2, 1) := by decide +kernel
theorem dX10_ringing_2 : decode cX10_ringing 2 = .ok (.iconst 0, 1) := by decide +kernel
theorem dX10_ringing_3 : decode cX10_ringing 3 = .ok (.istore_n 3, 1) := by decide +kernel
theorem dX10_ringing_4 : decode cX10_ringing 4 = .ok (.iload_n 3, 1) := by decide +kernel
theorem dX10_ringing_5 : decode cX10_ringing 5 = .ok (.aload_n 0, 1) := by decide +kernel
theorem dX10_ringing_6 : decode cX10_ringing 6 = .ok (.getfield 7, 3) := by decide +kernel
theorem dX10_ringing_9 : decode cX10_ringing 9 = .ok (.iconst 3, 1) := by decide +kernel
theorem dX10_ringing_10 : decode cX10_ringing 10 = .ok (.iaload, 1) := by decide +kernel
theorem dX10_ringing_11 : decode cX10_ringing 11 = .ok (.if_icmp .ge 28, 3) := by decide +kernel
theorem dX10_ringing_14 : decode cX10_ringing 14 = .ok (.iload_n 2, 1) := by decide +kernel
theorem dX10_ringing_15 : decode cX10_ringing 15 = .ok (.aload_n 0, 1) := by decide +kernel
theorem dX10_ringing_16 : decode cX10_ringing 16 = .ok (.iload_n 3, 1) := by decide +kernel
theorem dX10_ringing_17 : decode cX10_ringing 17 = .ok (.iload_n 1, 1) := by decide +kernel
theorem dX10_ringing_18 : decode cX10_ringing 18 = .ok (.invokevirtual 259, 3) := by decide +kernel
theorem dX10_ringing_21 : decode cX10_ringing 21 = .ok (.ifCond .eq 9, 3) := by decide +kernel
theorem dX10_ringing_24 : decode cX10_ringing 24 = .ok (.iconst 1, 1) := by decide +kernel
theorem dX10_ringing_25 : decode cX10_ringing 25 = .ok (.iload_n 3, 1) := by decide +kernel
theorem dX10_ringing_26 : decode cX10_ringing 26 = .ok (.ishl, 1) := by decide +kernel
theorem dX10_ringing_27 : decode cX10_ringing 27 = .ok (.goto 4, 3) := by decide +kernel
theorem dX10_ringing_30 : decode cX10_ringing 30 = .ok (.iconst 0, 1) := by decide +kernel
theorem dX10_ringing_31 : decode cX10_ringing 31 = .ok (.ior, 1) := by decide +kernel
theorem dX10_ringing_32 : decode cX10_ringing 32 = .ok (.istore_n 2, 1) := by decide +kernel
theorem dX10_ringing_33 : decode cX10_ringing 33 = .ok (.iinc 3 1, 3) := by decide +kernel
theorem dX10_ringing_36 : decode cX10_ringing 36 = .ok (.goto (-32), 3) := by decide +kernel
theorem dX10_ringing_39 : decode cX10_ringing 39 = .ok (.iload_n 2, 1) := by decide +kernel
theorem dX10_ringing_40 : decode cX10_ringing 40 = .ok (.ireturn, 1) := by decide +kernel
set_option maxRecDepth 20000 in
theorem ggX10_visitor_X10_isVisitor : GoodIn wsX10_visitor wsX10_isVisitor := goodIn_r _ [8, 9, 10, 11, 7, 12, 213, 214, 215, 216, 217, 218, 219, 220, 221, 222, 223, 224, 225, 226, 227, 228, 229, 230, 231, 232, 233, 234, 235, 236, 237, 238, 239, 240] (by decide +kernel) (by decide +kernel)
set_option maxRecDepth 20000 in
theorem gX10_visitor_X10_isVisitor : GoodIn wsX10_visitor (wsV RX10 300 RX10 yX10_isVisitor wsX10_isVisitor) := goodIn_app (goodIn_of _ (by decide +kernel)) ggX10_visitor_X10_isVisitor
set_option maxRecDepth 20000 in
theorem ggX10_visitor_X10_isIn : GoodIn wsX10_visitor wsX10_isIn := goodIn_r _ [12] (by decide +kernel) (by decide +kernel)
set_option maxRecDepth 20000 in
theorem gX10_visitor_X10_isIn : GoodIn wsX10_visitor (va_wsS RX10 66 yX10_isIn wsX10_isIn) := goodIn_app (goodIn_of _ (by decide +kernel)) ggX10_visitor_X10_isIn
set_option maxRecDepth 20000 in
theorem ggX10_visitor_X10_ofOne : GoodIn wsX10_visitor wsX10_ofOne := goodIn_r _ [16, 9, 213, 214, 215, 216, 217, 218, 219, 220, 221, 222, 223, 224, 225, 226, 227, 228, 229, 230, 231, 232, 233, 234, 235, 236, 237, 238, 239, 240] (by decide +kernel) (by decide +kernel)
set_option maxRecDepth 20000 in
theorem gX10_visitor_X10_ofOne : GoodIn wsX10_visitor (wsV RX10 246 RX10 yX10_ofOne wsX10_ofOne) := goodIn_app (goodIn_of _ (by decide +kernel)) ggX10_visitor_X10_ofOne
set_option maxRecDepth 20000 in
theorem ggX10_visitor_X10_tomorrow : GoodIn wsX10_visitor wsX10_tomorrow := goodIn_r _ [20, 21, 22, 23, 7, 24, 9, 25, 13, 14, 15, 16, 26, 27, 28, 29, 30, 31, 32, 33, 34, 35, 36, 37, 38, 39, 40, 41, 42, 43, 44, 45, 46, 47, 48, 49, 50, 51, 52, 53, 54, 55, 56, 57, 58, 59, 60, 61, 62, 63, 64, 65, 66, 67, 10, 11, 12, 68, 69, 70, 71, 72, 73, 74, 75, 76, 77, 78, 79, 80, 81, 82, 83, 84, 85, 86, 87, 88, 89, 90, 91, 92, 93, 94, 95, 96, 97, 98, 99, 100, 101, 102, 103, 104, 105, 106, 107, 108, 109, 110, 111, 112, 113, 114, 115, 116, 117, 118, 119, 120, 121, 122, 123, 124, 125, 126, 127, 128, 129, 130, 131, 132, 133, 134, 135, 136, 137, 138, 139, 140, 141, 142, 143, 144, 145, 146, 147, 148, 149, 150, 151, 152, 153, 154, 155, 156, 157, 158, 159, 160, 161, 162, 163, 164, 165, 166, 167, 168, 169, 170, 171, 172, 173, 174, 175, 176, 177, 178, 179, 180, 181, 182, 183, 184, 185, 186, 2, 187, 188, 189, 190, 191, 3, 192, 193, 194, 195, 196, 197, 198, 199, 200, 201, 202, 203, 204, 205, 206, 207, 208, 213, 214, 215, 216, 217, 218, 219, 220, 221, 222, 223, 224, 225, 226, 227, 228, 229, 230, 231, 232, 233, 234, 235, 236, 237, 238, 239, 240] (by decide +kernel) (by decide +kernel)
set_option maxRecDepth 20000 in
theorem gX10_visitor_X10_tomorrow : GoodIn wsX10_visitor (wsV RX10 288 RX10 yX10_tomorrow wsX10_tomorrow) := goodIn_app (goodIn_of _ (by decide +kernel)) ggX10_visitor_X10_tomorrow
set_option maxRecDepth 20000 in
theorem ggX10_visitor_X10_ringing : GoodIn wsX10_visitor wsX10_ringing := goodIn_r _ [212, 9, 201, 202, 203, 7, 204, 25, 205, 206, 207, 208, 39, 40, 41, 42, 213, 214, 215, 216, 217, 218, 219, 220, 221, 222, 223, 224, 225, 226, 227, 228, 229, 230, 231, 232, 233, 234, 235, 236, 237, 238, 239, 240] (by decide +kernel) (by decide +kernel)
set_option maxRecDepth 20000 in
theorem gX10_visitor_X10_ringing : GoodIn wsX10_visitor (wsV RX10 303 RX10 yX10_ringing wsX10_ringing) := goodIn_app (goodIn_of _ (by decide +kernel)) ggX10_visitor_X10_ringing
theorem dX10_visitor_0 : decode cX10_visitor 0 = .ok (.aload_n 0, 1) := by decide +kernel
theorem dX10_visitor_1 : decode cX10_visitor 1 = .ok (.aload_n 0, 1) := by decide +kernel
theorem dX10_visitor_2 : decode cX10_visitor 2 = .ok (.iload_n 1, 1) := by decide +kernel
theorem dX10_visitor_3 : decode cX10_visitor 3 = .ok (.invokevirtual 300, 3) := by decide +kernel
theorem dX10_visitor_6 : decode cX10_visitor 6 = .ok (.ifCond .ne 7, 3) := by decide +kernel
theorem dX10_visitor_9 : decode cX10_visitor 9 = .ok (.iconst 1, 1) := by decide +kernel
theorem dX10_visitor_10 : decode cX10_visitor 10 = .ok (.goto 18, 3) := by decide +kernel
theorem dX10_visitor_13 : decode cX10_visitor 13 = .ok (.iload_n 2, 1) := by decide +kernel
theorem dX10_visitor_14 : decode cX10_visitor 14 = .ok (.iconst 0, 1) := by decide +kernel
theorem dX10_visitor_15 : decode cX10_visitor 15 = .ok (.bipush 7, 2) := by decide +kernel
theorem dX10_visitor_17 : decode cX10_visitor 17 = .ok (.invokestatic 66, 3) := by decide +kernel
theorem dX10_visitor_20 : decode cX10_visitor 20 = .ok (.ifCond .ne 7, 3) := by decide +kernel
theorem dX10_visitor_23 : decode cX10_visitor 23 = .ok (.iconst 2, 1) := by decide +kernel
theorem dX10_visitor_24 : decode cX10_visitor 24 = .ok (.goto 4, 3) := by decide +kernel
theorem dX10_visitor_27 : decode cX10_visitor 27 = .ok (.iconst 0, 1) := by decide +kernel
theorem dX10_visitor_28 : decode cX10_visitor 28 = .ok (.putfield 63, 3) := by decide +kernel
theorem dX10_visitor_31 : decode cX10_visitor 31 = .ok (.aload_n 0, 1) := by decide +kernel
theorem dX10_visitor_32 : decode cX10_visitor 32 = .ok (.getfield 63, 3) := by decide +kernel
theorem dX10_visitor_35 : decode cX10_visitor 35 = .ok (.ifCond .le 5, 3) := by decide +kernel
theorem dX10_visitor_38 : decode cX10_visitor 38 = .ok (.iconst 0, 1) := by decide +kernel
theorem dX10_visitor_39 : decode cX10_visitor 39 = .ok (.ireturn, 1) := by decide +kernel
theorem dX10_visitor_40 : decode cX10_visitor 40 = .ok (.iload_n 2, 1) := by decide +kernel
theorem dX10_visitor_41 : decode cX10_visitor 41 = .ok (.iconst 5, 1) := by decide +kernel
theorem dX10_visitor_42 : decode cX10_visitor 42 = .ok (.if_icmp .ge 10, 3) := by decide +kernel
theorem dX10_visitor_45 : decode cX10_visitor 45 = .ok (.aload_n 0, 1) := by decide +kernel
theorem dX10_visitor_46 : decode cX10_visitor 46 = .ok (.iload_n 1, 1) := by decide +kernel
theorem dX10_visitor_47 : decode cX10_visitor 47 = .ok (.iload_n 2, 1) := by decide +kernel
theorem dX10_visitor_48 : decode cX10_visitor 48 = .ok (.invokevirtual 246, 3) := by decide +kernel
theorem dX10_visitor_51 : decode cX10_visitor 51 = .ok (.ireturn, 1) := by decide +kernel
theorem dX10_visitor_52 : decode cX10_visitor 52 = .ok (.aload_n 0, 1) := by decide +kernel
theorem dX10_visitor_53 : decode cX10_visitor 53 = .ok (.invokevirtual 288, 3) := by decide +kernel
theorem dX10_visitor_56 : decode cX10_visitor 56 = .ok (.iload_n 2, 1) := by decide +kernel
theorem dX10_visitor_57 : decode cX10_visitor 57 = .ok (.iconst 5, 1) := by decide +kernel
theorem dX10_visitor_58 : decode cX10_visitor 58 = .ok (.if_icmp .ne 11, 3) := by decide +kernel
theorem dX10_visitor_61 : decode cX10_visitor 61 = .ok (.aload_n 0, 1) := by decide +kernel
theorem dX10_visitor_62 : decode cX10_visitor 62 = .ok (.iload_n 1, 1) := by decide +kernel
theorem dX10_visitor_63 : decode cX10_visitor 63 = .ok (.invokevirtual 303, 3) := by decide +kernel
theorem dX10_visitor_66 : decode cX10_visitor 66 = .ok (.goto 24, 3) := by decide +kernel
theorem dX10_visitor_69 : decode cX10_visitor 69 = .ok (.iload_n 2, 1) := by decide +kernel
theorem dX10_visitor_70 : decode cX10_visitor 70 = .ok (.bipush 6, 2) := by decide +kernel
theorem dX10_visitor_72 : decode cX10_visitor 72 = .ok (.if_icmp .ne 12, 3) := by decide +kernel
theorem dX10_visitor_75 : decode cX10_visitor 75 = .ok (.aload_n 0, 1) := by decide +kernel
theorem dX10_visitor_76 : decode cX10_visitor 76 = .ok (.getfield 35, 3) := by decide +kernel
theorem dX10_visitor_79 : decode cX10_visitor 79 = .ok (.iload_n 1, 1) := by decide +kernel
theorem dX10_visitor_80 : decode cX10_visitor 80 = .ok (.iaload, 1) := by decide +kernel
theorem dX10_visitor_81 : decode cX10_visitor 81 = .ok (.goto 9, 3) := by decide +kernel
theorem dX10_visitor_84 : decode cX10_visitor 84 = .ok (.aload_n 0, 1) := by decide +kernel
theorem dX10_visitor_85 : decode cX10_visitor 85 = .ok (.getfield 38, 3) := by decide +kernel
theorem dX10_visitor_88 : decode cX10_visitor 88 = .ok (.iload_n 1, 1) := by decide +kernel
theorem dX10_visitor_89 : decode cX10_visitor 89 = .ok (.iaload, 1) := by decide +kernel
theorem dX10_visitor_90 : decode cX10_visitor 90 = .ok (.ireturn, 1) := by decide +kernel
set_option maxRecDepth 20000 in
theorem ggX10_liking_X10_isThing : GoodIn wsX10_liking wsX10_isThing := goodIn_r _ [6, 7, 8, 9, 5, 10, 176, 177, 178, 179, 180, 181, 182, 183, 184, 185, 186, 187, 188, 189, 190, 191, 192, 193, 194, 195, 196, 197, 198, 199, 200, 201, 202, 203] (by decide +kernel) (by decide +kernel)
set_option maxRecDepth 20000 in
theorem gX10_liking_X10_isThing : GoodIn wsX10_liking (wsV RX10 285 RX10 yX10_isThing wsX10_isThing) := goodIn_app (goodIn_of _ (by decide +kernel)) ggX10_liking_X10_isThing
set_option maxRecDepth 20000 in
theorem ggX10_liking_X10_isVisitor : GoodIn wsX10_liking wsX10_isVisitor := goodIn_r _ [14, 7, 8, 9, 5, 10, 176, 177, 178, 179, 180, 181, 182, 183, 184, 185, 186, 187, 188, 189, 190, 191, 192, 193, 194, 195, 196, 197, 198, 199, 200, 201, 202, 203] (by decide +kernel) (by decide +kernel)
set_option maxRecDepth 20000 in
theorem gX10_liking_X10_isVisitor : GoodIn wsX10_liking (wsV RX10 300 RX10 yX10_isVisitor wsX10_isVisitor) := goodIn_app (goodIn_of _ (by decide +kernel)) ggX10_liking_X10_isVisitor
set_option maxRecDepth 20000 in
theorem ggX10_liking_X10_ofOne : GoodIn wsX10_liking wsX10_ofOne := goodIn_r _ [18, 7, 176, 177, 178, 179, 180, 181, 182, 183, 184, 185, 186, 187, 188, 189, 190, 191, 192, 193, 194, 195, 196, 197, 198, 199, 200, 201, 202, 203] (by decide +kernel) (by decide +kernel)
set_option maxRecDepth 20000 in
theorem gX10_liking_X10_ofOne : GoodIn wsX10_liking (wsV RX10 246 RX10 yX10_ofOne wsX10_ofOne) := goodIn_app (goodIn_of _ (by decide +kernel)) ggX10_liking_X10_ofOne
set_option maxRecDepth 20000 in
theorem ggX10_liking_X10_likesOne : GoodIn wsX10_liking wsX10_likesOne := goodIn_r _ [22, 7, 23, 24, 25, 26, 27, 28, 29, 30, 31, 15, 16, 17, 5, 18, 32, 33, 34, 35, 36, 37, 38, 39, 40, 41, 42, 43, 44, 45, 46, 47, 48, 49, 50, 51, 52, 53, 54, 55, 56, 57, 58, 59, 60, 8, 9, 10, 61, 62, 63, 64, 65, 66, 67, 68, 69, 70, 71, 72, 73, 74, 75, 76, 77, 78, 79, 80, 81, 82, 83, 84, 85, 86, 87, 88, 89, 90, 91, 92, 93, 94, 95, 96, 97, 98, 99, 100, 101, 102, 103, 104, 105, 106, 107, 108, 109, 110, 111, 112, 113, 114, 115, 116, 117, 118, 119, 120, 121, 122, 123, 124, 125, 126, 127, 128, 129, 130, 131, 132, 133, 134, 135, 136, 137, 138, 139, 140, 141, 142, 143, 144, 145, 146, 147, 148, 149, 150, 151, 152, 153, 154, 155, 156, 157, 158, 159, 160, 161, 162, 163, 164, 165, 166, 167, 168, 169, 170, 171, 172, 173, 174, 175, 176, 177, 178, 179, 180, 181, 182, 183, 184, 185, 186, 187, 188, 189, 190, 191, 192, 193, 194, 195, 196, 197, 198, 199, 200, 201, 202, 203] (by decide +kernel) (by decide +kernel)
set_option maxRecDepth 20000 in
theorem gX10_liking_X10_likesOne : GoodIn wsX10_liking (wsV RX10 252 RX10 yX10_likesOne wsX10_likesOne) := goodIn_app (goodIn_of _ (by decide +kernel)) ggX10_liking_X10_likesOne
theorem dX10_liking_0 : decode cX10_liking 0 = .ok (.aload_n 0, 1) := by decide +kernel
theorem dX10_liking_1 : decode cX10_liking 1 = .ok (.aload_n 0, 1) := by decide +kernel
theorem dX10_liking_2 : decode cX10_liking 2 = .ok (.iload_n 1, 1) := by decide +kernel
theorem dX10_liking_3 : decode cX10_liking 3 = .ok (.invokevirtual 285, 3) := by decide +kernel
theorem dX10_liking_6 : decode cX10_liking 6 = .ok (.ifCond .eq 11, 3) := by decide +kernel
theorem dX10_liking_9 : decode cX10_liking 9 = .ok (.aload_n 0, 1) := by decide +kernel
theorem dX10_liking_10 : decode cX10_liking 10 = .ok (.iload_n 2, 1) := by decide +kernel
theorem dX10_liking_11 : decode cX10_liking 11 = .ok (.invokevirtual 300, 3) := by decide +kernel
theorem dX10_liking_14 : decode cX10_liking 14 = .ok (.ifCond .ne 7, 3) := by decide +kernel
theorem dX10_liking_17 : decode cX10_liking 17 = .ok (.iconst 1, 1) := by decide +kernel
theorem dX10_liking_18 : decode cX10_liking 18 = .ok (.goto 4, 3) := by decide +kernel
theorem dX10_liking_21 : decode cX10_liking 21 = .ok (.iconst 0, 1) := by decide +kernel
theorem dX10_liking_22 : decode cX10_liking 22 = .ok (.putfield 63, 3) := by decide +kernel
theorem dX10_liking_25 : decode cX10_liking 25 = .ok (.aload_n 0, 1) := by decide +kernel
theorem dX10_liking_26 : decode cX10_liking 26 = .ok (.getfield 63, 3) := by decide +kernel
theorem dX10_liking_29 : decode cX10_liking 29 = .ok (.ifCond .le 7, 3) := by decide +kernel
theorem dX10_liking_32 : decode cX10_liking 32 = .ok (.iconst 0, 1) := by decide +kernel
theorem dX10_liking_33 : decode cX10_liking 33 = .ok (.goto 15, 3) := by decide +kernel
theorem dX10_liking_36 : decode cX10_liking 36 = .ok (.aload_n 0, 1) := by decide +kernel
theorem dX10_liking_37 : decode cX10_liking 37 = .ok (.iload_n 1, 1) := by decide +kernel
theorem dX10_liking_38 : decode cX10_liking 38 = .ok (.iload_n 2, 1) := by decide +kernel
theorem dX10_liking_39 : decode cX10_liking 39 = .ok (.aload_n 0, 1) := by decide +kernel
theorem dX10_liking_40 : decode cX10_liking 40 = .ok (.iload_n 2, 1) := by decide +kernel
theorem dX10_liking_41 : decode cX10_liking 41 = .ok (.iconst 4, 1) := by decide +kernel
theorem dX10_liking_42 : decode cX10_liking 42 = .ok (.invokevirtual 246, 3) := by decide +kernel
theorem dX10_liking_45 : decode cX10_liking 45 = .ok (.invokevirtual 252, 3) := by decide +kernel
theorem dX10_liking_48 : decode cX10_liking 48 = .ok (.ireturn, 1) := by decide +kernel
theorem dX10_remembers_0 : decode cX10_remembers 0 = .ok (.aload_n 0, 1) := by decide +kernel
theorem dX10_remembers_1 : decode cX10_remembers 1 = .ok (.getfield 184, 3) := by decide +kernel
theorem dX10_remembers_4 : decode cX10_remembers 4 = .ok (.bipush 12, 2) := by decide +kernel
theorem dX10_remembers_6 : decode cX10_remembers 6 = .ok (.if_icmp .ne 44, 3) := by decide +kernel
theorem dX10_remembers_9 : decode cX10_remembers 9 = .ok (.iconst 0, 1) := by decide +kernel
theorem dX10_remembers_10 : decode cX10_remembers 10 = .ok (.istore_n 1, 1) := by decide +kernel
theorem dX10_remembers_11 : decode cX10_remembers 11 = .ok (.iload_n 1, 1) := by decide +kernel
theorem dX10_remembers_12 : decode cX10_remembers 12 = .ok (.sipush 4477, 3) := by decide +kernel
theorem dX10_remembers_15 : decode cX10_remembers 15 = .ok (.if_icmp .ge 25, 3) := by decide +kernel
theorem dX10_remembers_18 : decode cX10_remembers 18 = .ok (.aload_n 0, 1) := by decide +kernel
theorem dX10_remembers_19 : decode cX10_remembers 19 = .ok (.getfield 19, 3) := by decide +kernel
theorem dX10_remembers_22 : decode cX10_remembers 22 = .ok (.iload_n 1, 1) := by decide +kernel
theorem dX10_remembers_23 : decode cX10_remembers 23 = .ok (.aload_n 0, 1) := by decide +kernel
theorem dX10_remembers_24 : decode cX10_remembers 24 = .ok (.getfield 19, 3) := by decide +kernel
theorem dX10_remembers_27 : decode cX10_remembers 27 = .ok (.iload_n 1, 1) := by decide +kernel
theorem dX10_remembers_28 : decode cX10_remembers 28 = .ok (.sipush 407, 3) := by decide +kernel
theorem dX10_remembers_31 : decode cX10_remembers 31 = .ok (.iadd, 1) := by decide +kernel
theorem dX10_remembers_32 : decode cX10_remembers 32 = .ok (.iaload, 1) := by decide +kernel
theorem dX10_remembers_33 : decode cX10_remembers 33 = .ok (.iastore, 1) := by decide +kernel
theorem dX10_remembers_34 : decode cX10_remembers 34 = .ok (.iinc 1 1, 3) := by decide +kernel
theorem dX10_remembers_37 : decode cX10_remembers 37 = .ok (.goto (-26), 3) := by decide +kernel
theorem dX10_remembers_40 : decode cX10_remembers 40 = .ok (.aload_n 0, 1) := by decide +kernel
theorem dX10_remembers_41 : decode cX10_remembers 41 = .ok (.dup, 1) := by decide +kernel
theorem dX10_remembers_42 : decode cX10_remembers 42 = .ok (.getfield 184, 3) := by decide +kernel
theorem dX10_remembers_45 : decode cX10_remembers 45 = .ok (.iconst 1, 1) := by decide +kernel
theorem dX10_remembers_46 : decode cX10_remembers 46 = .ok (.isub, 1) := by decide +kernel
theorem dX10_remembers_47 : decode cX10_remembers 47 = .ok (.putfield 184, 3) := by decide +kernel
theorem dX10_remembers_50 : decode cX10_remembers 50 = .ok (.iconst 0, 1) := by decide +kernel
theorem dX10_remembers_51 : decode cX10_remembers 51 = .ok (.istore_n 1, 1) := by decide +kernel
theorem dX10_remembers_52 : decode cX10_remembers 52 = .ok (.iload_n 1, 1) := by decide +kernel
theorem dX10_remembers_53 : decode cX10_remembers 53 = .ok (.sipush 407, 3) := by decide +kernel
theorem dX10_remembers_56 : decode cX10_remembers 56 = .ok (.if_icmp .ge 30, 3) := by decide +kernel
theorem dX10_remembers_59 : decode cX10_remembers 59 = .ok (.aload_n 0, 1) := by decide +kernel
theorem dX10_remembers_60 : decode cX10_remembers 60 = .ok (.getfield 19, 3) := by decide +kernel
theorem dX10_remembers_63 : decode cX10_remembers 63 = .ok (.sipush 407, 3) := by decide +kernel
theorem dX10_remembers_66 : decode cX10_remembers 66 = .ok (.aload_n 0, 1) := by decide +kernel
theorem dX10_remembers_67 : decode cX10_remembers 67 = .ok (.getfield 184, 3) := by decide +kernel
theorem dX10_remembers_70 : decode cX10_remembers 70 = .ok (.imul, 1) := by decide +kernel
theorem dX10_remembers_71 : decode cX10_remembers 71 = .ok (.iload_n 1, 1) := by decide +kernel
theorem dX10_remembers_72 : decode cX10_remembers 72 = .ok (.iadd, 1) := by decide +kernel
theorem dX10_remembers_73 : decode cX10_remembers 73 = .ok (.aload_n 0, 1) := by decide +kernel
theorem dX10_remembers_74 : decode cX10_remembers 74 = .ok (.getfield 7, 3) := by decide +kernel
theorem dX10_remembers_77 : decode cX10_remembers 77 = .ok (.iload_n 1, 1) := by decide +kernel
theorem dX10_remembers_78 : decode cX10_remembers 78 = .ok (.iaload, 1) := by decide +kernel
theorem dX10_remembers_79 : decode cX10_remembers 79 = .ok (.iastore, 1) := by decide +kernel
theorem dX10_remembers_80 : decode cX10_remembers 80 = .ok (.iinc 1 1, 3) := by decide +kernel
theorem dX10_remembers_83 : decode cX10_remembers 83 = .ok (.goto (-31), 3) := by decide +kernel
theorem dX10_remembers_86 : decode cX10_remembers 86 = .ok (.aload_n 0, 1) := by decide +kernel
theorem dX10_remembers_87 : decode cX10_remembers 87 = .ok (.dup, 1) := by decide +kernel
theorem dX10_remembers_88 : decode cX10_remembers 88 = .ok (.getfield 184, 3) := by decide +kernel
theorem dX10_remembers_91 : decode cX10_remembers 91 = .ok (.iconst 1, 1) := by decide +kernel
theorem dX10_remembers_92 : decode cX10_remembers 92 = .ok (.iadd, 1) := by decide +kernel
theorem dX10_remembers_93 : decode cX10_remembers 93 = .ok (.putfield 184, 3) := by decide +kernel
theorem dX10_remembers_96 : decode cX10_remembers 96 = .ok (.return_, 1) := by decide +kernel
set_option maxRecDepth 20000 in
theorem ggX10_move_X10_isThing : GoodIn wsX10_move wsX10_isThing := goodIn_r _ [7, 2, 8, 9, 6, 10, 25, 26, 27, 28, 29, 30, 31, 32, 33, 34, 35, 36, 37, 38, 39, 40, 41, 42, 43, 44, 45, 46, 47, 48, 49, 50, 51, 52] (by decide +kernel) (by decide +kernel)
set_option maxRecDepth 20000 in
theorem gX10_move_X10_isThing : GoodIn wsX10_move (wsV RX10 285 RX10 yX10_isThing wsX10_isThing) := goodIn_app (goodIn_of _ (by decide +kernel)) ggX10_move_X10_isThing
set_option maxRecDepth 20000 in
theorem ggX10_move_X10_isIn : GoodIn wsX10_move wsX10_isIn := goodIn_r _ [10] (by decide +kernel) (by decide +kernel)
set_option maxRecDepth 20000 in
theorem gX10_move_X10_isIn : GoodIn wsX10_move (va_wsS RX10 66 yX10_isIn wsX10_isIn) := goodIn_app (goodIn_of _ (by decide +kernel)) ggX10_move_X10_isIn
set_option maxRecDepth 20000 in
theorem ggX10_move_X10_remembers : GoodIn wsX10_move wsX10_remembers := goodIn_r _ [14, 15, 16, 2, 25, 26, 27, 28, 29, 30, 31, 32, 33, 34, 35, 36, 37, 38, 39, 40, 41, 42, 43, 44, 45, 46, 47, 48, 49, 50, 51, 52] (by decide +kernel) (by decide +kernel)
set_option maxRecDepth 20000 in
theorem gX10_move_X10_remembers : GoodIn wsX10_move (wsV RX10 306 RX10 yX10_remembers wsX10_remembers) := goodIn_app (goodIn_of _ (by decide +kernel)) ggX10_move_X10_remembers
set_option maxRecDepth 20000 in
theorem ggX10_move_X10_thingAt : GoodIn wsX10_move wsX10_thingAt := goodIn_r _ [20, 2, 21, 22, 23, 6, 24, 25, 26, 27, 28, 29, 30, 31, 32, 33, 34, 35, 36, 37, 38, 39, 40, 41, 42, 43, 44, 45, 46, 47, 48, 49, 50, 51, 52] (by decide +kernel) (by decide +kernel)
set_option maxRecDepth 20000 in
theorem gX10_move_X10_thingAt : GoodIn wsX10_move (wsV RX10 122 RX10 yX10_thingAt wsX10_thingAt) := goodIn_app (goodIn_of _ (by decide +kernel)) ggX10_move_X10_thingAt
set_option maxRecDepth 20000 in
theorem ggX10_move_X10_of : GoodIn wsX10_move wsX10_of := goodIn_r _ [24, 2, 25, 26, 27, 28, 29, 30, 31, 32, 33, 34, 35, 36, 37, 38, 39, 40, 41, 42, 43, 44, 45, 46, 47, 48, 49, 50, 51, 52] (by decide +kernel) (by decide +kernel)
set_option maxRecDepth 20000 in
theorem gX10_move_X10_of : GoodIn wsX10_move (wsV RX10 70 RX10 yX10_of wsX10_of) := goodIn_app (goodIn_of _ (by decide +kernel)) ggX10_move_X10_of
theorem dX10_move_0 : decode cX10_move 0 = .ok (.aload_n 0, 1) := by decide +kernel
theorem dX10_move_1 : decode cX10_move 1 = .ok (.aload_n 0, 1) := by decide +kernel
theorem dX10_move_2 : decode cX10_move 2 = .ok (.iload_n 1, 1) := by decide +kernel
theorem dX10_move_3 : decode cX10_move 3 = .ok (.invokevirtual 285, 3) := by decide +kernel
theorem dX10_move_6 : decode cX10_move 6 = .ok (.ifCond .eq 13, 3) := by decide +kernel
theorem dX10_move_9 : decode cX10_move 9 = .ok (.iload_n 2, 1) := by decide +kernel
theorem dX10_move_10 : decode cX10_move 10 = .ok (.iconst 0, 1) := by decide +kernel
theorem dX10_move_11 : decode cX10_move 11 = .ok (.bipush 19, 2) := by decide +kernel
theorem dX10_move_13 : decode cX10_move 13 = .ok (.invokestatic 66, 3) := by decide +kernel
theorem dX10_move_16 : decode cX10_move 16 = .ok (.ifCond .ne 7, 3) := by decide +kernel
theorem dX10_move_19 : decode cX10_move 19 = .ok (.iconst 1, 1) := by decide +kernel
theorem dX10_move_20 : decode cX10_move 20 = .ok (.goto 4, 3) := by decide +kernel
theorem dX10_move_23 : decode cX10_move 23 = .ok (.iconst 0, 1) := by decide +kernel
theorem dX10_move_24 : decode cX10_move 24 = .ok (.putfield 63, 3) := by decide +kernel
theorem dX10_move_27 : decode cX10_move 27 = .ok (.aload_n 0, 1) := by decide +kernel
theorem dX10_move_28 : decode cX10_move 28 = .ok (.getfield 63, 3) := by decide +kernel
theorem dX10_move_31 : decode cX10_move 31 = .ok (.ifCond .le 5, 3) := by decide +kernel
theorem dX10_move_34 : decode cX10_move 34 = .ok (.iconst 0, 1) := by decide +kernel
theorem dX10_move_35 : decode cX10_move 35 = .ok (.ireturn, 1) := by decide +kernel
theorem dX10_move_36 : decode cX10_move 36 = .ok (.aload_n 0, 1) := by decide +kernel
theorem dX10_move_37 : decode cX10_move 37 = .ok (.invokevirtual 306, 3) := by decide +kernel
theorem dX10_move_40 : decode cX10_move 40 = .ok (.aload_n 0, 1) := by decide +kernel
theorem dX10_move_41 : decode cX10_move 41 = .ok (.iload_n 2, 1) := by decide +kernel
theorem dX10_move_42 : decode cX10_move 42 = .ok (.invokevirtual 122, 3) := by decide +kernel
theorem dX10_move_45 : decode cX10_move 45 = .ok (.istore_n 3, 1) := by decide +kernel
theorem dX10_move_46 : decode cX10_move 46 = .ok (.iload_n 3, 1) := by decide +kernel
theorem dX10_move_47 : decode cX10_move 47 = .ok (.iload_n 1, 1) := by decide +kernel
theorem dX10_move_48 : decode cX10_move 48 = .ok (.if_icmp .ne 5, 3) := by decide +kernel
theorem dX10_move_51 : decode cX10_move 51 = .ok (.iconst (-1), 1) := by decide +kernel
theorem dX10_move_52 : decode cX10_move 52 = .ok (.ireturn, 1) := by decide +kernel
theorem dX10_move_53 : decode cX10_move 53 = .ok (.iload_n 3, 1) := by decide +kernel
theorem dX10_move_54 : decode cX10_move 54 = .ok (.iconst (-1), 1) := by decide +kernel
theorem dX10_move_55 : decode cX10_move 55 = .ok (.if_icmp .eq 22, 3) := by decide +kernel
theorem dX10_move_58 : decode cX10_move 58 = .ok (.aload_n 0, 1) := by decide +kernel
theorem dX10_move_59 : decode cX10_move 59 = .ok (.getfield 7, 3) := by decide +kernel
theorem dX10_move_62 : decode cX10_move 62 = .ok (.bipush 12, 2) := by decide +kernel
theorem dX10_move_64 : decode cX10_move 64 = .ok (.iconst 5, 1) := by decide +kernel
theorem dX10_move_65 : decode cX10_move 65 = .ok (.iload_n 3, 1) := by decide +kernel
theorem dX10_move_66 : decode cX10_move 66 = .ok (.imul, 1) := by decide +kernel
theorem dX10_move_67 : decode cX10_move 67 = .ok (.iadd, 1) := by decide +kernel
theorem dX10_move_68 : decode cX10_move 68 = .ok (.iconst 0, 1) := by decide +kernel
theorem dX10_move_69 : decode cX10_move 69 = .ok (.iadd, 1) := by decide +kernel
theorem dX10_move_70 : decode cX10_move 70 = .ok (.aload_n 0, 1) := by decide +kernel
theorem dX10_move_71 : decode cX10_move 71 = .ok (.iload_n 1, 1) := by decide +kernel
theorem dX10_move_72 : decode cX10_move 72 = .ok (.iconst 0, 1) := by decide +kernel
theorem dX10_move_73 : decode cX10_move 73 = .ok (.invokevirtual 70, 3) := by decide +kernel
theorem dX10_move_76 : decode cX10_move 76 = .ok (.iastore, 1) := by decide +kernel
theorem dX10_move_77 : decode cX10_move 77 = .ok (.aload_n 0, 1) := by decide +kernel
theorem dX10_move_78 : decode cX10_move 78 = .ok (.getfield 7, 3) := by decide +kernel
theorem dX10_move_81 : decode cX10_move 81 = .ok (.bipush 12, 2) := by decide +kernel
theorem dX10_move_83 : decode cX10_move 83 = .ok (.iconst 5, 1) := by decide +kernel
theorem dX10_move_84 : decode cX10_move 84 = .ok (.iload_n 1, 1) := by decide +kernel
theorem dX10_move_85 : decode cX10_move 85 = .ok (.imul, 1) := by decide +kernel
theorem dX10_move_86 : decode cX10_move 86 = .ok (.iadd, 1) := by decide +kernel
theorem dX10_move_87 : decode cX10_move 87 = .ok (.iconst 0, 1) := by decide +kernel
theorem dX10_move_88 : decode cX10_move 88 = .ok (.iadd, 1) := by decide +kernel
theorem dX10_move_89 : decode cX10_move 89 = .ok (.iload_n 2, 1) := by decide +kernel
theorem dX10_move_90 : decode cX10_move 90 = .ok (.iastore, 1) := by decide +kernel
theorem dX10_move_91 : decode cX10_move 91 = .ok (.iload_n 3, 1) := by decide +kernel
theorem dX10_move_92 : decode cX10_move 92 = .ok (.ireturn, 1) := by decide +kernel
set_option maxRecDepth 20000 in
theorem ggX10_hold_X10_isThing : GoodIn wsX10_hold wsX10_isThing := goodIn_r _ [7, 2, 8, 9, 6, 10, 21, 22, 23, 24, 25, 26, 27, 28, 29, 30, 31, 32, 33, 34, 35, 36, 37, 38, 39, 40, 41, 42, 43, 44, 45, 46, 47, 48] (by decide +kernel) (by decide +kernel)
set_option maxRecDepth 20000 in
theorem gX10_hold_X10_isThing : GoodIn wsX10_hold (wsV RX10 285 RX10 yX10_isThing wsX10_isThing) := goodIn_app (goodIn_of _ (by decide +kernel)) ggX10_hold_X10_isThing
set_option maxRecDepth 20000 in
theorem ggX10_hold_X10_isIn : GoodIn wsX10_hold wsX10_isIn := goodIn_r _ [10] (by decide +kernel) (by decide +kernel)
set_option maxRecDepth 20000 in
theorem gX10_hold_X10_isIn : GoodIn wsX10_hold (va_wsS RX10 66 yX10_isIn wsX10_isIn) := goodIn_app (goodIn_of _ (by decide +kernel)) ggX10_hold_X10_isIn
set_option maxRecDepth 20000 in
theorem ggX10_hold_X10_remembers : GoodIn wsX10_hold wsX10_remembers := goodIn_r _ [14, 15, 16, 2, 21, 22, 23, 24, 25, 26, 27, 28, 29, 30, 31, 32, 33, 34, 35, 36, 37, 38, 39, 40, 41, 42, 43, 44, 45, 46, 47, 48] (by decide +kernel) (by decide +kernel)
set_option maxRecDepth 20000 in
theorem gX10_hold_X10_remembers : GoodIn wsX10_hold (wsV RX10 306 RX10 yX10_remembers wsX10_remembers) := goodIn_app (goodIn_of _ (by decide +kernel)) ggX10_hold_X10_remembers
set_option maxRecDepth 20000 in
theorem ggX10_hold_X10_of : GoodIn wsX10_hold wsX10_of := goodIn_r _ [20, 2, 21, 22, 23, 24, 25, 26, 27, 28, 29, 30, 31, 32, 33, 34, 35, 36, 37, 38, 39, 40, 41, 42, 43, 44, 45, 46, 47, 48] (by decide +kernel) (by decide +kernel)
set_option maxRecDepth 20000 in
theorem gX10_hold_X10_of : GoodIn wsX10_hold (wsV RX10 70 RX10 yX10_of wsX10_of) := goodIn_app (goodIn_of _ (by decide +kernel)) ggX10_hold_X10_of
theorem dX10_hold_0 : decode cX10_hold 0 = .ok (.aload_n 0, 1) := by decide +kernel
theorem dX10_hold_1 : decode cX10_hold 1 = .ok (.aload_n 0, 1) := by decide +kernel
theorem dX10_hold_2 : decode cX10_hold 2 = .ok (.iload_n 1, 1) := by decide +kernel
theorem dX10_hold_3 : decode cX10_hold 3 = .ok (.invokevirtual 285, 3) := by decide +kernel
theorem dX10_hold_6 : decode cX10_hold 6 = .ok (.ifCond .ne 7, 3) := by decide +kernel
theorem dX10_hold_9 : decode cX10_hold 9 = .ok (.iconst 1, 1) := by decide +kernel
theorem dX10_hold_10 : decode cX10_hold 10 = .ok (.goto 18, 3) := by decide +kernel
theorem dX10_hold_13 : decode cX10_hold 13 = .ok (.iload_n 2, 1) := by decide +kernel
theorem dX10_hold_14 : decode cX10_hold 14 = .ok (.iconst 0, 1) := by decide +kernel
theorem dX10_hold_15 : decode cX10_hold 15 = .ok (.bipush 99, 2) := by decide +kernel
theorem dX10_hold_17 : decode cX10_hold 17 = .ok (.invokestatic 66, 3) := by decide +kernel
theorem dX10_hold_20 : decode cX10_hold 20 = .ok (.ifCond .ne 7, 3) := by decide +kernel
theorem dX10_hold_23 : decode cX10_hold 23 = .ok (.iconst 2, 1) := by decide +kernel
theorem dX10_hold_24 : decode cX10_hold 24 = .ok (.goto 4, 3) := by decide +kernel
theorem dX10_hold_27 : decode cX10_hold 27 = .ok (.iconst 0, 1) := by decide +kernel
theorem dX10_hold_28 : decode cX10_hold 28 = .ok (.putfield 63, 3) := by decide +kernel
theorem dX10_hold_31 : decode cX10_hold 31 = .ok (.aload_n 0, 1) := by decide +kernel
theorem dX10_hold_32 : decode cX10_hold 32 = .ok (.getfield 63, 3) := by decide +kernel
theorem dX10_hold_35 : decode cX10_hold 35 = .ok (.ifCond .le 5, 3) := by decide +kernel
theorem dX10_hold_38 : decode cX10_hold 38 = .ok (.iconst 0, 1) := by decide +kernel
theorem dX10_hold_39 : decode cX10_hold 39 = .ok (.ireturn, 1) := by decide +kernel
theorem dX10_hold_40 : decode cX10_hold 40 = .ok (.aload_n 0, 1) := by decide +kernel
theorem dX10_hold_41 : decode cX10_hold 41 = .ok (.invokevirtual 306, 3) := by decide +kernel
theorem dX10_hold_44 : decode cX10_hold 44 = .ok (.aload_n 0, 1) := by decide +kernel
theorem dX10_hold_45 : decode cX10_hold 45 = .ok (.iload_n 1, 1) := by decide +kernel
theorem dX10_hold_46 : decode cX10_hold 46 = .ok (.iconst 1, 1) := by decide +kernel
theorem dX10_hold_47 : decode cX10_hold 47 = .ok (.invokevirtual 70, 3) := by decide +kernel
theorem dX10_hold_50 : decode cX10_hold 50 = .ok (.istore_n 3, 1) := by decide +kernel
theorem dX10_hold_51 : decode cX10_hold 51 = .ok (.aload_n 0, 1) := by decide +kernel
theorem dX10_hold_52 : decode cX10_hold 52 = .ok (.getfield 7, 3) := by decide +kernel
theorem dX10_hold_55 : decode cX10_hold 55 = .ok (.bipush 12, 2) := by decide +kernel
theorem dX10_hold_57 : decode cX10_hold 57 = .ok (.iconst 5, 1) := by decide +kernel
theorem dX10_hold_58 : decode cX10_hold 58 = .ok (.iload_n 1, 1) := by decide +kernel
theorem dX10_hold_59 : decode cX10_hold 59 = .ok (.imul, 1) := by decide +kernel
theorem dX10_hold_60 : decode cX10_hold 60 = .ok (.iadd, 1) := by decide +kernel
theorem dX10_hold_61 : decode cX10_hold 61 = .ok (.iconst 1, 1) := by decide +kernel
theorem dX10_hold_62 : decode cX10_hold 62 = .ok (.iadd, 1) := by decide +kernel
theorem dX10_hold_63 : decode cX10_hold 63 = .ok (.iload_n 2, 1) := by decide +kernel
theorem dX10_hold_64 : decode cX10_hold 64 = .ok (.iastore, 1) := by decide +kernel
theorem dX10_hold_65 : decode cX10_hold 65 = .ok (.iload_n 3, 1) := by decide +kernel
theorem dX10_hold_66 : decode cX10_hold 66 = .ok (.ireturn, 1) := by decide +kernel
set_option maxRecDepth 20000 in
theorem ggX10_show_X10_isThing : GoodIn wsX10_show wsX10_isThing := goodIn_r _ [7, 2, 8, 9, 6, 10, 21, 22, 23, 24, 25, 26, 27, 28, 29, 30, 31, 32, 33, 34, 35, 36, 37, 38, 39, 40, 41, 42, 43, 44, 45, 46, 47, 48] (by decide +kernel) (by decide +kernel)
set_option maxRecDepth 20000 in
theorem gX10_show_X10_isThing : GoodIn wsX10_show (wsV RX10 285 RX10 yX10_isThing wsX10_isThing) := goodIn_app (goodIn_of _ (by decide +kernel)) ggX10_show_X10_isThing
set_option maxRecDepth 20000 in
theorem ggX10_show_X10_remembers : GoodIn wsX10_show wsX10_remembers := goodIn_r _ [14, 15, 16, 2, 21, 22, 23, 24, 25, 26, 27, 28, 29, 30, 31, 32, 33, 34, 35, 36, 37, 38, 39, 40, 41, 42, 43, 44, 45, 46, 47, 48] (by decide +kernel) (by decide +kernel)
set_option maxRecDepth 20000 in
theorem gX10_show_X10_remembers : GoodIn wsX10_show (wsV RX10 306 RX10 yX10_remembers wsX10_remembers) := goodIn_app (goodIn_of _ (by decide +kernel)) ggX10_show_X10_remembers
set_option maxRecDepth 20000 in
theorem ggX10_show_X10_of : GoodIn wsX10_show wsX10_of := goodIn_r _ [20, 2, 21, 22, 23, 24, 25, 26, 27, 28, 29, 30, 31, 32, 33, 34, 35, 36, 37, 38, 39, 40, 41, 42, 43, 44, 45, 46, 47, 48] (by decide +kernel) (by decide +kernel)
set_option maxRecDepth 20000 in
theorem gX10_show_X10_of : GoodIn wsX10_show (wsV RX10 70 RX10 yX10_of wsX10_of) := goodIn_app (goodIn_of _ (by decide +kernel)) ggX10_show_X10_of
theorem dX10_show_0 : decode cX10_show 0 = .ok (.aload_n 0, 1) := by decide +kernel
theorem dX10_show_1 : decode cX10_show 1 = .ok (.aload_n 0, 1) := by decide +kernel
theorem dX10_show_2 : decode cX10_show 2 = .ok (.iload_n 1, 1) := by decide +kernel
theorem dX10_show_3 : decode cX10_show 3 = .ok (.invokevirtual 285, 3) := by decide +kernel
theorem dX10_show_6 : decode cX10_show 6 = .ok (.ifCond .ne 7, 3) := by decide +kernel
theorem dX10_show_9 : decode cX10_show 9 = .ok (.iconst 1, 1) := by decide +kernel
theorem dX10_show_10 : decode cX10_show 10 = .ok (.goto 4, 3) := by decide +kernel
theorem dX10_show_13 : decode cX10_show 13 = .ok (.iconst 0, 1) := by decide +kernel
theorem dX10_show_14 : decode cX10_show 14 = .ok (.putfield 63, 3) := by decide +kernel
theorem dX10_show_17 : decode cX10_show 17 = .ok (.aload_n 0, 1) := by decide +kernel
theorem dX10_show_18 : decode cX10_show 18 = .ok (.getfield 63, 3) := by decide +kernel
theorem dX10_show_21 : decode cX10_show 21 = .ok (.ifCond .le 5, 3) := by decide +kernel
theorem dX10_show_24 : decode cX10_show 24 = .ok (.iconst 0, 1) := by decide +kernel
theorem dX10_show_25 : decode cX10_show 25 = .ok (.ireturn, 1) := by decide +kernel
theorem dX10_show_26 : decode cX10_show 26 = .ok (.aload_n 0, 1) := by decide +kernel
theorem dX10_show_27 : decode cX10_show 27 = .ok (.invokevirtual 306, 3) := by decide +kernel
theorem dX10_show_30 : decode cX10_show 30 = .ok (.aload_n 0, 1) := by decide +kernel
theorem dX10_show_31 : decode cX10_show 31 = .ok (.iload_n 1, 1) := by decide +kernel
theorem dX10_show_32 : decode cX10_show 32 = .ok (.iconst 3, 1) := by decide +kernel
theorem dX10_show_33 : decode cX10_show 33 = .ok (.invokevirtual 70, 3) := by decide +kernel
theorem dX10_show_36 : decode cX10_show 36 = .ok (.iconst 1, 1) := by decide +kernel
theorem dX10_show_37 : decode cX10_show 37 = .ok (.if_icmp .ne 7, 3) := by decide +kernel
theorem dX10_show_40 : decode cX10_show 40 = .ok (.iconst 1, 1) := by decide +kernel
theorem dX10_show_41 : decode cX10_show 41 = .ok (.goto 4, 3) := by decide +kernel
theorem dX10_show_44 : decode cX10_show 44 = .ok (.iconst 0, 1) := by decide +kernel
theorem dX10_show_45 : decode cX10_show 45 = .ok (.istore_n 3, 1) := by decide +kernel
theorem dX10_show_46 : decode cX10_show 46 = .ok (.aload_n 0, 1) := by decide +kernel
theorem dX10_show_47 : decode cX10_show 47 = .ok (.getfield 7, 3) := by decide +kernel
theorem dX10_show_50 : decode cX10_show 50 = .ok (.bipush 12, 2) := by decide +kernel
theorem dX10_show_52 : decode cX10_show 52 = .ok (.iconst 5, 1) := by decide +kernel
theorem dX10_show_53 : decode cX10_show 53 = .ok (.iload_n 1, 1) := by decide +kernel
theorem dX10_show_54 : decode cX10_show 54 = .ok (.imul, 1) := by decide +kernel
theorem dX10_show_55 : decode cX10_show 55 = .ok (.iadd, 1) := by decide +kernel
theorem dX10_show_56 : decode cX10_show 56 = .ok (.iconst 3, 1) := by decide +kernel
theorem dX10_show_57 : decode cX10_show 57 = .ok (.iadd, 1) := by decide +kernel
theorem dX10_show_58 : decode cX10_show 58 = .ok (.iload_n 2, 1) := by decide +kernel
theorem dX10_show_59 : decode cX10_show 59 = .ok (.ifCond .eq 7, 3) := by decide +kernel
theorem dX10_show_62 : decode cX10_show 62 = .ok (.iconst 1, 1) := by decide +kernel
theorem dX10_show_63 : decode cX10_show 63 = .ok (.goto 4, 3) := by decide +kernel
theorem dX10_show_66 : decode cX10_show 66 = .ok (.iconst 0, 1) := by decide +kernel
theorem dX10_show_67 : decode cX10_show 67 = .ok (.iastore, 1) := by decide +kernel
theorem dX10_show_68 : decode cX10_show 68 = .ok (.iload_n 3, 1) := by decide +kernel
theorem dX10_show_69 : decode cX10_show 69 = .ok (.iload_n 2, 1) := by decide +kernel
theorem dX10_show_70 : decode cX10_show 70 = .ok (.if_icmp .eq 7, 3) := by decide +kernel
theorem dX10_show_73 : decode cX10_show 73 = .ok (.iconst 1, 1) := by decide +kernel
theorem dX10_show_74 : decode cX10_show 74 = .ok (.goto 4, 3) := by decide +kernel
theorem dX10_show_77 : decode cX10_show 77 = .ok (.iconst 0, 1) := by decide +kernel
theorem dX10_show_78 : decode cX10_show 78 = .ok (.ireturn, 1) := by decide +kernel
set_option maxRecDepth 20000 in
theorem ggX10_clean_X10_isVisitor : GoodIn wsX10_clean wsX10_isVisitor := goodIn_r _ [7, 2, 8, 9, 6, 10, 21, 22, 23, 24, 25, 26, 27, 28, 29, 30, 31, 32, 33, 34, 35, 36, 37, 38, 39, 40, 41, 42, 43, 44, 45, 46, 47, 48] (by decide +kernel) (by decide +kernel)
set_option maxRecDepth 20000 in
theorem gX10_clean_X10_isVisitor : GoodIn wsX10_clean (wsV RX10 300 RX10 yX10_isVisitor wsX10_isVisitor) := goodIn_app (goodIn_of _ (by decide +kernel)) ggX10_clean_X10_isVisitor
set_option maxRecDepth 20000 in
theorem ggX10_clean_X10_isIn : GoodIn wsX10_clean wsX10_isIn := goodIn_r _ [10] (by decide +kernel) (by decide +kernel)
set_option maxRecDepth 20000 in
theorem gX10_clean_X10_isIn : GoodIn wsX10_clean (va_wsS RX10 66 yX10_isIn wsX10_isIn) := goodIn_app (goodIn_of _ (by decide +kernel)) ggX10_clean_X10_isIn
set_option maxRecDepth 20000 in
theorem ggX10_clean_X10_remembers : GoodIn wsX10_clean wsX10_remembers := goodIn_r _ [14, 15, 16, 2, 21, 22, 23, 24, 25, 26, 27, 28, 29, 30, 31, 32, 33, 34, 35, 36, 37, 38, 39, 40, 41, 42, 43, 44, 45, 46, 47, 48] (by decide +kernel) (by decide +kernel)
set_option maxRecDepth 20000 in
theorem gX10_clean_X10_remembers : GoodIn wsX10_clean (wsV RX10 306 RX10 yX10_remembers wsX10_remembers) := goodIn_app (goodIn_of _ (by decide +kernel)) ggX10_clean_X10_remembers
set_option maxRecDepth 20000 in
theorem ggX10_clean_X10_ofOne : GoodIn wsX10_clean wsX10_ofOne := goodIn_r _ [20, 2, 21, 22, 23, 24, 25, 26, 27, 28, 29, 30, 31, 32, 33, 34, 35, 36, 37, 38, 39, 40, 41, 42, 43, 44, 45, 46, 47, 48] (by decide +kernel) (by decide +kernel)
set_option maxRecDepth 20000 in
theorem gX10_clean_X10_ofOne : GoodIn wsX10_clean (wsV RX10 246 RX10 yX10_ofOne wsX10_ofOne) := goodIn_app (goodIn_of _ (by decide +kernel)) ggX10_clean_X10_ofOne
theorem dX10_clean_0 : decode cX10_clean 0 = .ok (.aload_n 0, 1) := by decide +kernel
theorem dX10_clean_1 : decode cX10_clean 1 = .ok (.aload_n 0, 1) := by decide +kernel
theorem dX10_clean_2 : decode cX10_clean 2 = .ok (.iload_n 1, 1) := by decide +kernel
theorem dX10_clean_3 : decode cX10_clean 3 = .ok (.invokevirtual 300, 3) := by decide +kernel
theorem dX10_clean_6 : decode cX10_clean 6 = .ok (.ifCond .ne 7, 3) := by decide +kernel
theorem dX10_clean_9 : decode cX10_clean 9 = .ok (.iconst 1, 1) := by decide +kernel
theorem dX10_clean_10 : decode cX10_clean 10 = .ok (.goto 18, 3) := by decide +kernel
theorem dX10_clean_13 : decode cX10_clean 13 = .ok (.iload_n 2, 1) := by decide +kernel
theorem dX10_clean_14 : decode cX10_clean 14 = .ok (.iconst 0, 1) := by decide +kernel
theorem dX10_clean_15 : decode cX10_clean 15 = .ok (.bipush 9, 2) := by decide +kernel
theorem dX10_clean_17 : decode cX10_clean 17 = .ok (.invokestatic 66, 3) := by decide +kernel
theorem dX10_clean_20 : decode cX10_clean 20 = .ok (.ifCond .ne 7, 3) := by decide +kernel
theorem dX10_clean_23 : decode cX10_clean 23 = .ok (.iconst 2, 1) := by decide +kernel
theorem dX10_clean_24 : decode cX10_clean 24 = .ok (.goto 4, 3) := by decide +kernel
theorem dX10_clean_27 : decode cX10_clean 27 = .ok (.iconst 0, 1) := by decide +kernel
theorem dX10_clean_28 : decode cX10_clean 28 = .ok (.putfield 63, 3) := by decide +kernel
theorem dX10_clean_31 : decode cX10_clean 31 = .ok (.aload_n 0, 1) := by decide +kernel
theorem dX10_clean_32 : decode cX10_clean 32 = .ok (.getfield 63, 3) := by decide +kernel
theorem dX10_clean_35 : decode cX10_clean 35 = .ok (.ifCond .le 5, 3) := by decide +kernel
theorem dX10_clean_38 : decode cX10_clean 38 = .ok (.iconst 0, 1) := by decide +kernel
theorem dX10_clean_39 : decode cX10_clean 39 = .ok (.ireturn, 1) := by decide +kernel
theorem dX10_clean_40 : decode cX10_clean 40 = .ok (.aload_n 0, 1) := by decide +kernel
theorem dX10_clean_41 : decode cX10_clean 41 = .ok (.invokevirtual 306, 3) := by decide +kernel
theorem dX10_clean_44 : decode cX10_clean 44 = .ok (.aload_n 0, 1) := by decide +kernel
theorem dX10_clean_45 : decode cX10_clean 45 = .ok (.iload_n 1, 1) := by decide +kernel
theorem dX10_clean_46 : decode cX10_clean 46 = .ok (.iconst 1, 1) := by decide +kernel
theorem dX10_clean_47 : decode cX10_clean 47 = .ok (.invokevirtual 246, 3) := by decide +kernel
theorem dX10_clean_50 : decode cX10_clean 50 = .ok (.istore_n 3, 1) := by decide +kernel
theorem dX10_clean_51 : decode cX10_clean 51 = .ok (.aload_n 0, 1) := by decide +kernel
theorem dX10_clean_52 : decode cX10_clean 52 = .ok (.getfield 7, 3) := by decide +kernel
theorem dX10_clean_55 : decode cX10_clean 55 = .ok (.bipush 57, 2) := by decide +kernel
theorem dX10_clean_57 : decode cX10_clean 57 = .ok (.iconst 5, 1) := by decide +kernel
theorem dX10_clean_58 : decode cX10_clean 58 = .ok (.iload_n 1, 1) := by decide +kernel
theorem dX10_clean_59 : decode cX10_clean 59 = .ok (.imul, 1) := by decide +kernel
theorem dX10_clean_60 : decode cX10_clean 60 = .ok (.iadd, 1) := by decide +kernel
theorem dX10_clean_61 : decode cX10_clean 61 = .ok (.iconst 1, 1) := by decide +kernel
theorem dX10_clean_62 : decode cX10_clean 62 = .ok (.iadd, 1) := by decide +kernel
theorem dX10_clean_63 : decode cX10_clean 63 = .ok (.iload_n 2, 1) := by decide +kernel
theorem dX10_clean_64 : decode cX10_clean 64 = .ok (.iastore, 1) := by decide +kernel
theorem dX10_clean_65 : decode cX10_clean 65 = .ok (.iload_n 3, 1) := by decide +kernel
theorem dX10_clean_66 : decode cX10_clean 66 = .ok (.ireturn, 1) := by decide +kernel
set_option maxRecDepth 20000 in
theorem ggX10_mark_X10_isVisitor : GoodIn wsX10_mark wsX10_isVisitor := goodIn_r _ [7, 2, 8, 9, 6, 10, 21, 22, 23, 24, 25, 26, 27, 28, 29, 30, 31, 32, 33, 34, 35, 36, 37, 38, 39, 40, 41, 42, 43, 44, 45, 46, 47, 48] (by decide +kernel) (by decide +kernel)
set_option maxRecDepth 20000 in
theorem gX10_mark_X10_isVisitor : GoodIn wsX10_mark (wsV RX10 300 RX10 yX10_isVisitor wsX10_isVisitor) := goodIn_app (goodIn_of _ (by decide +kernel)) ggX10_mark_X10_isVisitor
set_option maxRecDepth 20000 in
theorem ggX10_mark_X10_isIn : GoodIn wsX10_mark wsX10_isIn := goodIn_r _ [10] (by decide +kernel) (by decide +kernel)
set_option maxRecDepth 20000 in
theorem gX10_mark_X10_isIn : GoodIn wsX10_mark (va_wsS RX10 66 yX10_isIn wsX10_isIn) := goodIn_app (goodIn_of _ (by decide +kernel)) ggX10_mark_X10_isIn
set_option maxRecDepth 20000 in
theorem ggX10_mark_X10_remembers : GoodIn wsX10_mark wsX10_remembers := goodIn_r _ [14, 15, 16, 2, 21, 22, 23, 24, 25, 26, 27, 28, 29, 30, 31, 32, 33, 34, 35, 36, 37, 38, 39, 40, 41, 42, 43, 44, 45, 46, 47, 48] (by decide +kernel) (by decide +kernel)
set_option maxRecDepth 20000 in
theorem gX10_mark_X10_remembers : GoodIn wsX10_mark (wsV RX10 306 RX10 yX10_remembers wsX10_remembers) := goodIn_app (goodIn_of _ (by decide +kernel)) ggX10_mark_X10_remembers
set_option maxRecDepth 20000 in
theorem ggX10_mark_X10_ofOne : GoodIn wsX10_mark wsX10_ofOne := goodIn_r _ [20, 2, 21, 22, 23, 24, 25, 26, 27, 28, 29, 30, 31, 32, 33, 34, 35, 36, 37, 38, 39, 40, 41, 42, 43, 44, 45, 46, 47, 48] (by decide +kernel) (by decide +kernel)
set_option maxRecDepth 20000 in
theorem gX10_mark_X10_ofOne : GoodIn wsX10_mark (wsV RX10 246 RX10 yX10_ofOne wsX10_ofOne) := goodIn_app (goodIn_of _ (by decide +kernel)) ggX10_mark_X10_ofOne
theorem dX10_mark_0 : decode cX10_mark 0 = .ok (.aload_n 0, 1) := by decide +kernel
theorem dX10_mark_1 : decode cX10_mark 1 = .ok (.aload_n 0, 1) := by decide +kernel
theorem dX10_mark_2 : decode cX10_mark 2 = .ok (.iload_n 1, 1) := by decide +kernel
theorem dX10_mark_3 : decode cX10_mark 3 = .ok (.invokevirtual 300, 3) := by decide +kernel
theorem dX10_mark_6 : decode cX10_mark 6 = .ok (.ifCond .eq 12, 3) := by decide +kernel
theorem dX10_mark_9 : decode cX10_mark 9 = .ok (.iload_n 2, 1) := by decide +kernel
theorem dX10_mark_10 : decode cX10_mark 10 = .ok (.iconst 0, 1) := by decide +kernel
theorem dX10_mark_11 : decode cX10_mark 11 = .ok (.iconst 5, 1) := by decide +kernel
theorem dX10_mark_12 : decode cX10_mark 12 = .ok (.invokestatic 66, 3) := by decide +kernel
theorem dX10_mark_15 : decode cX10_mark 15 = .ok (.ifCond .ne 7, 3) := by decide +kernel
theorem dX10_mark_18 : decode cX10_mark 18 = .ok (.iconst 1, 1) := by decide +kernel
theorem dX10_mark_19 : decode cX10_mark 19 = .ok (.goto 4, 3) := by decide +kernel
theorem dX10_mark_22 : decode cX10_mark 22 = .ok (.iconst 0, 1) := by decide +kernel
theorem dX10_mark_23 : decode cX10_mark 23 = .ok (.putfield 63, 3) := by decide +kernel
theorem dX10_mark_26 : decode cX10_mark 26 = .ok (.aload_n 0, 1) := by decide +kernel
theorem dX10_mark_27 : decode cX10_mark 27 = .ok (.getfield 63, 3) := by decide +kernel
theorem dX10_mark_30 : decode cX10_mark 30 = .ok (.ifCond .le 5, 3) := by decide +kernel
theorem dX10_mark_33 : decode cX10_mark 33 = .ok (.iconst 0, 1) := by decide +kernel
theorem dX10_mark_34 : decode cX10_mark 34 = .ok (.ireturn, 1) := by decide +kernel
theorem dX10_mark_35 : decode cX10_mark 35 = .ok (.aload_n 0, 1) := by decide +kernel
theorem dX10_mark_36 : decode cX10_mark 36 = .ok (.invokevirtual 306, 3) := by decide +kernel
theorem dX10_mark_39 : decode cX10_mark 39 = .ok (.aload_n 0, 1) := by decide +kernel
theorem dX10_mark_40 : decode cX10_mark 40 = .ok (.iload_n 1, 1) := by decide +kernel
theorem dX10_mark_41 : decode cX10_mark 41 = .ok (.iconst 4, 1) := by decide +kernel
theorem dX10_mark_42 : decode cX10_mark 42 = .ok (.invokevirtual 246, 3) := by decide +kernel
theorem dX10_mark_45 : decode cX10_mark 45 = .ok (.istore 4, 2) := by decide +kernel
theorem dX10_mark_47 : decode cX10_mark 47 = .ok (.aload_n 0, 1) := by decide +kernel
theorem dX10_mark_48 : decode cX10_mark 48 = .ok (.getfield 7, 3) := by decide +kernel
theorem dX10_mark_51 : decode cX10_mark 51 = .ok (.bipush 57, 2) := by decide +kernel
theorem dX10_mark_53 : decode cX10_mark 53 = .ok (.iconst 5, 1) := by decide +kernel
theorem dX10_mark_54 : decode cX10_mark 54 = .ok (.iload_n 1, 1) := by decide +kernel
theorem dX10_mark_55 : decode cX10_mark 55 = .ok (.imul, 1) := by decide +kernel
theorem dX10_mark_56 : decode cX10_mark 56 = .ok (.iadd, 1) := by decide +kernel
theorem dX10_mark_57 : decode cX10_mark 57 = .ok (.iconst 4, 1) := by decide +kernel
theorem dX10_mark_58 : decode cX10_mark 58 = .ok (.iadd, 1) := by decide +kernel
theorem dX10_mark_59 : decode cX10_mark 59 = .ok (.iload_n 3, 1) := by decide +kernel
theorem dX10_mark_60 : decode cX10_mark 60 = .ok (.ifCond .eq 12, 3) := by decide +kernel
theorem dX10_mark_63 : decode cX10_mark 63 = .ok (.iload 4, 2) := by decide +kernel
theorem dX10_mark_65 : decode cX10_mark 65 = .ok (.iconst 1, 1) := by decide +kernel
theorem dX10_mark_66 : decode cX10_mark 66 = .ok (.iload_n 2, 1) := by decide +kernel
theorem dX10_mark_67 : decode cX10_mark 67 = .ok (.ishl, 1) := by decide +kernel
theorem dX10_mark_68 : decode cX10_mark 68 = .ok (.ior, 1) := by decide +kernel
theorem dX10_mark_69 : decode cX10_mark 69 = .ok (.goto 11, 3) := by decide +kernel
theorem dX10_mark_72 : decode cX10_mark 72 = .ok (.iload 4, 2) := by decide +kernel
theorem dX10_mark_74 : decode cX10_mark 74 = .ok (.iconst 1, 1) := by decide +kernel
theorem dX10_mark_75 : decode cX10_mark 75 = .ok (.iload_n 2, 1) := by decide +kernel
theorem dX10_mark_76 : decode cX10_mark 76 = .ok (.ishl, 1) := by decide +kernel
theorem dX10_mark_77 : decode cX10_mark 77 = .ok (.iconst (-1), 1) := by decide +kernel
theorem dX10_mark_78 : decode cX10_mark 78 = .ok (.ixor, 1) := by decide +kernel
theorem dX10_mark_79 : decode cX10_mark 79 = .ok (.iand, 1) := by decide +kernel
theorem dX10_mark_80 : decode cX10_mark 80 = .ok (.iastore, 1) := by decide +kernel
theorem dX10_mark_81 : decode cX10_mark 81 = .ok (.iload 4, 2) := by decide +kernel
theorem dX10_mark_83 : decode cX10_mark 83 = .ok (.aload_n 0, 1) := by decide +kernel
theorem dX10_mark_84 : decode cX10_mark 84 = .ok (.iload_n 1, 1) := by decide +kernel
theorem dX10_mark_85 : decode cX10_mark 85 = .ok (.iconst 4, 1) := by decide +kernel
theorem dX10_mark_86 : decode cX10_mark 86 = .ok (.invokevirtual 246, 3) := by decide +kernel
theorem dX10_mark_89 : decode cX10_mark 89 = .ok (.if_icmp .eq 7, 3) := by decide +kernel
theorem dX10_mark_92 : decode cX10_mark 92 = .ok (.iconst 1, 1) := by decide +kernel
theorem dX10_mark_93 : decode cX10_mark 93 = .ok (.goto 4, 3) := by decide +kernel
theorem dX10_mark_96 : decode cX10_mark 96 = .ok (.iconst 0, 1) := by decide +kernel
theorem dX10_mark_97 : decode cX10_mark 97 = .ok (.ireturn, 1) := by decide +kernel
set_option maxRecDepth 20000 in
theorem ggX10_trade_X10_isVisitor : GoodIn wsX10_trade wsX10_isVisitor := goodIn_r _ [7, 2, 8, 9, 6, 10, 21, 22, 23, 24, 25, 26, 27, 28, 29, 30, 31, 32, 33, 34, 35, 36, 37, 38, 39, 40, 41, 42, 43, 44, 45, 46, 47, 48] (by decide +kernel) (by decide +kernel)
set_option maxRecDepth 20000 in
theorem gX10_trade_X10_isVisitor : GoodIn wsX10_trade (wsV RX10 300 RX10 yX10_isVisitor wsX10_isVisitor) := goodIn_app (goodIn_of _ (by decide +kernel)) ggX10_trade_X10_isVisitor
set_option maxRecDepth 20000 in
theorem ggX10_trade_X10_remembers : GoodIn wsX10_trade wsX10_remembers := goodIn_r _ [14, 15, 16, 2, 21, 22, 23, 24, 25, 26, 27, 28, 29, 30, 31, 32, 33, 34, 35, 36, 37, 38, 39, 40, 41, 42, 43, 44, 45, 46, 47, 48] (by decide +kernel) (by decide +kernel)
set_option maxRecDepth 20000 in
theorem gX10_trade_X10_remembers : GoodIn wsX10_trade (wsV RX10 306 RX10 yX10_remembers wsX10_remembers) := goodIn_app (goodIn_of _ (by decide +kernel)) ggX10_trade_X10_remembers
set_option maxRecDepth 20000 in
theorem ggX10_trade_X10_ofOne : GoodIn wsX10_trade wsX10_ofOne := goodIn_r _ [20, 2, 21, 22, 23, 24, 25, 26, 27, 28, 29, 30, 31, 32, 33, 34, 35, 36, 37, 38, 39, 40, 41, 42, 43, 44, 45, 46, 47, 48] (by decide +kernel) (by decide +kernel)
set_option maxRecDepth 20000 in
theorem gX10_trade_X10_ofOne : GoodIn wsX10_trade (wsV RX10 246 RX10 yX10_ofOne wsX10_ofOne) := goodIn_app (goodIn_of _ (by decide +kernel)) ggX10_trade_X10_ofOne
theorem dX10_trade_0 : decode cX10_trade 0 = .ok (.aload_n 0, 1) := by decide +kernel
theorem dX10_trade_1 : decode cX10_trade 1 = .ok (.aload_n 0, 1) := by decide +kernel
theorem dX10_trade_2 : decode cX10_trade 2 = .ok (.iload_n 1, 1) := by decide +kernel
theorem dX10_trade_3 : decode cX10_trade 3 = .ok (.invokevirtual 300, 3) := by decide +kernel
theorem dX10_trade_6 : decode cX10_trade 6 = .ok (.ifCond .eq 11, 3) := by decide +kernel
theorem dX10_trade_9 : decode cX10_trade 9 = .ok (.aload_n 0, 1) := by decide +kernel
theorem dX10_trade_10 : decode cX10_trade 10 = .ok (.iload_n 2, 1) := by decide +kernel
theorem dX10_trade_11 : decode cX10_trade 11 = .ok (.invokevirtual 300, 3) := by decide +kernel
theorem dX10_trade_14 : decode cX10_trade 14 = .ok (.ifCond .ne 7, 3) := by decide +kernel
theorem dX10_trade_17 : decode cX10_trade 17 = .ok (.iconst 1, 1) := by decide +kernel
theorem dX10_trade_18 : decode cX10_trade 18 = .ok (.goto 13, 3) := by decide +kernel
theorem dX10_trade_21 : decode cX10_trade 21 = .ok (.iload_n 1, 1) := by decide +kernel
theorem dX10_trade_22 : decode cX10_trade 22 = .ok (.iload_n 2, 1) := by decide +kernel
theorem dX10_trade_23 : decode cX10_trade 23 = .ok (.if_icmp .ne 7, 3) := by decide +kernel
theorem dX10_trade_26 : decode cX10_trade 26 = .ok (.iconst 2, 1) := by decide +kernel
theorem dX10_trade_27 : decode cX10_trade 27 = .ok (.goto 4, 3) := by decide +kernel
theorem dX10_trade_30 : decode cX10_trade 30 = .ok (.iconst 0, 1) := by decide +kernel
theorem dX10_trade_31 : decode cX10_trade 31 = .ok (.putfield 63, 3) := by decide +kernel
theorem dX10_trade_34 : decode cX10_trade 34 = .ok (.aload_n 0, 1) := by decide +kernel
theorem dX10_trade_35 : decode cX10_trade 35 = .ok (.getfield 63, 3) := by decide +kernel
theorem dX10_trade_38 : decode cX10_trade 38 = .ok (.ifCond .le 4, 3) := by decide +kernel
theorem dX10_trade_41 : decode cX10_trade 41 = .ok (.return_, 1) := by decide +kernel
theorem dX10_trade_42 : decode cX10_trade 42 = .ok (.aload_n 0, 1) := by decide +kernel
theorem dX10_trade_43 : decode cX10_trade 43 = .ok (.invokevirtual 306, 3) := by decide +kernel
theorem dX10_trade_46 : decode cX10_trade 46 = .ok (.iconst 0, 1) := by decide +kernel
theorem dX10_trade_47 : decode cX10_trade 47 = .ok (.istore_n 3, 1) := by decide +kernel
theorem dX10_trade_48 : decode cX10_trade 48 = .ok (.iload_n 3, 1) := by decide +kernel
theorem dX10_trade_49 : decode cX10_trade 49 = .ok (.iconst 5, 1) := by decide +kernel
theorem dX10_trade_50 : decode cX10_trade 50 = .ok (.if_icmp .ge 51, 3) := by decide +kernel
theorem dX10_trade_53 : decode cX10_trade 53 = .ok (.aload_n 0, 1) := by decide +kernel
theorem dX10_trade_54 : decode cX10_trade 54 = .ok (.iload_n 1, 1) := by decide +kernel
theorem dX10_trade_55 : decode cX10_trade 55 = .ok (.iload_n 3, 1) := by decide +kernel
theorem dX10_trade_56 : decode cX10_trade 56 = .ok (.invokevirtual 246, 3) := by decide +kernel
theorem dX10_trade_59 : decode cX10_trade 59 = .ok (.istore 4, 2) := by decide +kernel
theorem dX10_trade_61 : decode cX10_trade 61 = .ok (.aload_n 0, 1) := by decide +kernel
theorem dX10_trade_62 : decode cX10_trade 62 = .ok (.getfield 7, 3) := by decide +kernel
theorem dX10_trade_65 : decode cX10_trade 65 = .ok (.bipush 57, 2) := by decide +kernel
theorem dX10_trade_67 : decode cX10_trade 67 = .ok (.iconst 5, 1) := by decide +kernel
theorem dX10_trade_68 : decode cX10_trade 68 = .ok (.iload_n 1, 1) := by decide +kernel
theorem dX10_trade_69 : decode cX10_trade 69 = .ok (.imul, 1) := by decide +kernel
theorem dX10_trade_70 : decode cX10_trade 70 = .ok (.iadd, 1) := by decide +kernel
theorem dX10_trade_71 : decode cX10_trade 71 = .ok (.iload_n 3, 1) := by decide +kernel
theorem dX10_trade_72 : decode cX10_trade 72 = .ok (.iadd, 1) := by decide +kernel
theorem dX10_trade_73 : decode cX10_trade 73 = .ok (.aload_n 0, 1) := by decide +kernel
theorem dX10_trade_74 : decode cX10_trade 74 = .ok (.iload_n 2, 1) := by decide +kernel
theorem dX10_trade_75 : decode cX10_trade 75 = .ok (.iload_n 3, 1) := by decide +kernel
theorem dX10_trade_76 : decode cX10_trade 76 = .ok (.invokevirtual 246, 3) := by decide +kernel
theorem dX10_trade_79 : decode cX10_trade 79 = .ok (.iastore, 1) := by decide +kernel
theorem dX10_trade_80 : decode cX10_trade 80 = .ok (.aload_n 0, 1) := by decide +kernel
theorem dX10_trade_81 : decode cX10_trade 81 = .ok (.getfield 7, 3) := by decide +kernel
theorem dX10_trade_84 : decode cX10_trade 84 = .ok (.bipush 57, 2) := by decide +kernel
theorem dX10_trade_86 : decode cX10_trade 86 = .ok (.iconst 5, 1) := by decide +kernel
theorem dX10_trade_87 : decode cX10_trade 87 = .ok (.iload_n 2, 1) := by decide +kernel
theorem dX10_trade_88 : decode cX10_trade 88 = .ok (.imul, 1) := by decide +kernel
theorem dX10_trade_89 : decode cX10_trade 89 = .ok (.iadd, 1) := by decide +kernel
theorem dX10_trade_90 : decode cX10_trade 90 = .ok (.iload_n 3, 1) := by decide +kernel
theorem dX10_trade_91 : decode cX10_trade 91 = .ok (.iadd, 1) := by decide +kernel
theorem dX10_trade_92 : decode cX10_trade 92 = .ok (.iload 4, 2) := by decide +kernel
theorem dX10_trade_94 : decode cX10_trade 94 = .ok (.iastore, 1) := by decide +kernel
theorem dX10_trade_95 : decode cX10_trade 95 = .ok (.iinc 3 1, 3) := by decide +kernel
theorem dX10_trade_98 : decode cX10_trade 98 = .ok (.goto (-50), 3) := by decide +kernel
theorem dX10_trade_101 : decode cX10_trade 101 = .ok (.return_, 1) := by decide +kernel
set_option maxRecDepth 20000 in
theorem ggX10_days_X10_isIn : GoodIn wsX10_days wsX10_isIn := goodIn_r _ [5] (by decide +kernel) (by decide +kernel)
set_option maxRecDepth 20000 in
theorem gX10_days_X10_isIn : GoodIn wsX10_days (va_wsS RX10 66 yX10_isIn wsX10_isIn) := goodIn_app (goodIn_of _ (by decide +kernel)) ggX10_days_X10_isIn
set_option maxRecDepth 20000 in
theorem ggX10_days_X10_remembers : GoodIn wsX10_days wsX10_remembers := goodIn_r _ [9, 10, 11, 12, 218, 219, 220, 221, 222, 223, 224, 225, 226, 227, 228, 229, 230, 231, 232, 233, 234, 235, 236, 237, 238, 239, 240, 241, 242, 243, 244, 245] (by decide +kernel) (by decide +kernel)
set_option maxRecDepth 20000 in
theorem gX10_days_X10_remembers : GoodIn wsX10_days (wsV RX10 306 RX10 yX10_remembers wsX10_remembers) := goodIn_app (goodIn_of _ (by decide +kernel)) ggX10_days_X10_remembers
set_option maxRecDepth 20000 in
theorem ggX10_days_X10_goes : GoodIn wsX10_days wsX10_goes := goodIn_r _ [16, 17, 18, 19, 4, 20, 12, 21, 22, 23, 24, 25, 26, 27, 28, 29, 30, 31, 32, 33, 34, 35, 36, 37, 38, 39, 40, 41, 42, 43, 44, 45, 46, 47, 48, 49, 50, 51, 52, 53, 54, 55, 56, 57, 58, 59, 60, 61, 62, 63, 64, 65, 66, 67, 68, 69, 70, 71, 72, 73, 74, 2, 3, 5, 75, 76, 77, 78, 79, 80, 81, 82, 83, 84, 85, 86, 87, 88, 89, 90, 91, 92, 93, 94, 95, 96, 97, 98, 99, 100, 101, 102, 103, 104, 105, 106, 107, 108, 109, 110, 111, 112, 113, 114, 115, 116, 117, 118, 119, 120, 121, 122, 123, 124, 125, 126, 127, 128, 129, 130, 131, 132, 133, 134, 135, 136, 137, 138, 139, 140, 141, 142, 143, 144, 145, 146, 147, 148, 149, 150, 151, 152, 153, 154, 155, 156, 157, 158, 159, 160, 161, 162, 163, 164, 165, 166, 167, 168, 169, 170, 171, 172, 173, 174, 175, 176, 177, 178, 179, 180, 181, 182, 183, 184, 185, 186, 187, 188, 189, 190, 191, 192, 193, 194, 195, 196, 197, 198, 199, 200, 201, 202, 203, 204, 205, 206, 207, 208, 209, 210, 211, 212, 213, 214, 215, 216, 217, 218, 219, 220, 221, 222, 223, 224, 225, 226, 227, 228, 229, 230, 231, 232, 233, 234, 235, 236, 237, 238, 239, 240, 241, 242, 243, 244, 245] (by decide +kernel) (by decide +kernel)
set_option maxRecDepth 20000 in
theorem gX10_days_X10_goes : GoodIn wsX10_days (wsV RX10 309 RX10 yX10_goes wsX10_goes) := goodIn_app (goodIn_of _ (by decide +kernel)) ggX10_days_X10_goes
theorem dX10_days_0 : decode cX10_days 0 = .ok (.aload_n 0, 1) := by decide +kernel
theorem dX10_days_1 : decode cX10_days 1 = .ok (.iload_n 1, 1) := by decide +kernel
theorem dX10_days_2 : decode cX10_days 2 = .ok (.iconst 1, 1) := by decide +kernel
theorem dX10_days_3 : decode cX10_days 3 = .ok (.bipush 50, 2) := by decide +kernel
theorem dX10_days_5 : decode cX10_days 5 = .ok (.invokestatic 66, 3) := by decide +kernel
theorem dX10_days_8 : decode cX10_days 8 = .ok (.ifCond .ne 7, 3) := by decide +kernel
theorem dX10_days_11 : decode cX10_days 11 = .ok (.iconst 1, 1) := by decide +kernel
theorem dX10_days_12 : decode cX10_days 12 = .ok (.goto 4, 3) := by decide +kernel
theorem dX10_days_15 : decode cX10_days 15 = .ok (.iconst 0, 1) := by decide +kernel
theorem dX10_days_16 : decode cX10_days 16 = .ok (.putfield 63, 3) := by decide +kernel
theorem dX10_days_19 : decode cX10_days 19 = .ok (.aload_n 0, 1) := by decide +kernel
theorem dX10_days_20 : decode cX10_days 20 = .ok (.getfield 63, 3) := by decide +kernel
theorem dX10_days_23 : decode cX10_days 23 = .ok (.ifCond .le 5, 3) := by decide +kernel
theorem dX10_days_26 : decode cX10_days 26 = .ok (.iconst 0, 1) := by decide +kernel
theorem dX10_days_27 : decode cX10_days 27 = .ok (.ireturn, 1) := by decide +kernel
theorem dX10_days_28 : decode cX10_days 28 = .ok (.aload_n 0, 1) := by decide +kernel
theorem dX10_days_29 : decode cX10_days 29 = .ok (.invokevirtual 306, 3) := by decide +kernel
theorem dX10_days_32 : decode cX10_days 32 = .ok (.aload_n 0, 1) := by decide +kernel
theorem dX10_days_33 : decode cX10_days 33 = .ok (.iload_n 1, 1) := by decide +kernel
theorem dX10_days_34 : decode cX10_days 34 = .ok (.invokevirtual 309, 3) := by decide +kernel
theorem dX10_days_37 : decode cX10_days 37 = .ok (.ireturn, 1) := by decide +kernel
set_option maxRecDepth 20000 in
theorem ggX10_had_X10_tomorrow : GoodIn wsX10_had wsX10_tomorrow := goodIn_r _ [6, 7, 8, 9, 5, 10, 11, 12, 13, 14, 15, 16, 17, 18, 19, 20, 21, 22, 23, 24, 25, 26, 27, 28, 29, 30, 31, 32, 33, 34, 35, 36, 37, 38, 39, 40, 41, 42, 43, 44, 45, 46, 47, 48, 49, 50, 51, 52, 53, 54, 55, 56, 57, 58, 59, 60, 61, 62, 63, 64, 65, 66, 67, 68, 69, 70, 71, 72, 73, 74, 75, 76, 77, 78, 79, 80, 81, 82, 83, 84, 85, 86, 87, 88, 89, 90, 91, 92, 93, 94, 95, 96, 97, 98, 99, 100, 101, 102, 103, 104, 105, 106, 107, 108, 109, 110, 111, 112, 113, 114, 115, 116, 117, 118, 119, 120, 121, 122, 123, 124, 125, 126, 127, 128, 129, 130, 131, 132, 133, 134, 135, 136, 137, 138, 139, 140, 141, 142, 143, 144, 145, 146, 147, 148, 149, 150, 151, 152, 153, 154, 155, 156, 157, 158, 159, 160, 161, 162, 163, 164, 165, 166, 167, 168, 169, 170, 171, 172, 173, 174, 175, 176, 177, 178, 179, 180, 181, 182, 183, 184, 185, 186, 187, 188, 189, 190, 191, 192, 193, 194, 195, 196, 197, 198, 199, 200, 201, 202, 203, 204, 209, 210, 211, 212, 213, 214, 215, 216, 217, 218, 219, 220, 221, 222, 223, 224, 225, 226, 227, 228, 229, 230, 231, 232, 233, 234, 235, 236] (by decide +kernel) (by decide +kernel)
set_option maxRecDepth 20000 in
theorem gX10_had_X10_tomorrow : GoodIn wsX10_had (wsV RX10 288 RX10 yX10_tomorrow wsX10_tomorrow) := goodIn_app (goodIn_of _ (by decide +kernel)) ggX10_had_X10_tomorrow
set_option maxRecDepth 20000 in
theorem ggX10_had_X10_hadNow : GoodIn wsX10_had wsX10_hadNow := goodIn_r _ [208, 11, 181, 209, 210, 211, 212, 213, 214, 215, 216, 217, 218, 219, 220, 221, 222, 223, 224, 225, 226, 227, 228, 229, 230, 231, 232, 233, 234, 235, 236] (by decide +kernel) (by decide +kernel)
set_option maxRecDepth 20000 in
theorem gX10_had_X10_hadNow : GoodIn wsX10_had (wsV RX10 312 RX10 yX10_hadNow wsX10_hadNow) := goodIn_app (goodIn_of _ (by decide +kernel)) ggX10_had_X10_hadNow
theorem dX10_had_0 : decode cX10_had 0 = .ok (.aload_n 0, 1) := by decide +kernel
theorem dX10_had_1 : decode cX10_had 1 = .ok (.iconst 0, 1) := by decide +kernel
theorem dX10_had_2 : decode cX10_had 2 = .ok (.putfield 63, 3) := by decide +kernel
theorem dX10_had_5 : decode cX10_had 5 = .ok (.aload_n 0, 1) := by decide +kernel
theorem dX10_had_6 : decode cX10_had 6 = .ok (.invokevirtual 288, 3) := by decide +kernel
theorem dX10_had_9 : decode cX10_had 9 = .ok (.aload_n 0, 1) := by decide +kernel
theorem dX10_had_10 : decode cX10_had 10 = .ok (.invokevirtual 312, 3) := by decide +kernel
theorem dX10_had_13 : decode cX10_had 13 = .ok (.ireturn, 1) := by decide +kernel
set_option maxRecDepth 20000 in
theorem ggX10_first_X10_tomorrow : GoodIn wsX10_first wsX10_tomorrow := goodIn_r _ [7, 8, 9, 10, 6, 11, 12, 13, 14, 15, 16, 17, 18, 19, 20, 21, 22, 23, 24, 25, 26, 27, 28, 29, 30, 31, 32, 33, 34, 35, 36, 37, 38, 39, 40, 41, 42, 43, 44, 45, 46, 47, 48, 49, 50, 51, 52, 53, 54, 55, 56, 57, 58, 59, 60, 61, 62, 63, 64, 65, 66, 67, 68, 69, 70, 71, 72, 73, 74, 75, 76, 77, 78, 79, 80, 81, 82, 83, 84, 85, 86, 87, 88, 89, 90, 91, 92, 93, 94, 95, 96, 97, 98, 99, 100, 101, 102, 103, 104, 105, 106, 107, 108, 109, 110, 111, 112, 113, 114, 115, 116, 117, 118, 119, 120, 121, 122, 123, 124, 125, 126, 127, 128, 129, 130, 131, 132, 133, 134, 135, 136, 137, 138, 139, 140, 141, 142, 143, 144, 145, 146, 147, 148, 149, 150, 151, 152, 153, 154, 155, 156, 157, 158, 159, 160, 161, 162, 163, 164, 165, 166, 167, 168, 169, 170, 171, 172, 173, 174, 175, 176, 177, 178, 179, 180, 181, 182, 2, 183, 184, 185, 186, 187, 188, 189, 190, 191, 192, 193, 194, 195, 196, 197, 198, 199, 200, 201, 202, 203, 204, 205, 206, 207, 208, 209, 210, 211, 212, 213, 214, 215, 216, 217, 218, 219, 220, 221, 222, 223, 224, 225, 226, 227, 228, 229, 230, 231, 232] (by decide +kernel) (by decide +kernel)
set_option maxRecDepth 20000 in
theorem gX10_first_X10_tomorrow : GoodIn wsX10_first (wsV RX10 288 RX10 yX10_tomorrow wsX10_tomorrow) := goodIn_app (goodIn_of _ (by decide +kernel)) ggX10_first_X10_tomorrow
set_option maxRecDepth 20000 in
theorem ggX10_first_X10_thingAt : GoodIn wsX10_first wsX10_thingAt := goodIn_r _ [162, 12, 31, 32, 33, 6, 34, 205, 206, 207, 208, 209, 210, 211, 212, 213, 214, 215, 216, 217, 218, 219, 220, 221, 222, 223, 224, 225, 226, 227, 228, 229, 230, 231, 232] (by decide +kernel) (by decide +kernel)
set_option maxRecDepth 20000 in
theorem gX10_first_X10_thingAt : GoodIn wsX10_first (wsV RX10 122 RX10 yX10_thingAt wsX10_thingAt) := goodIn_app (goodIn_of _ (by decide +kernel)) ggX10_first_X10_thingAt
set_option maxRecDepth 20000 in
theorem ggX10_first_X10_of : GoodIn wsX10_first wsX10_of := goodIn_r _ [34, 12, 205, 206, 207, 208, 209, 210, 211, 212, 213, 214, 215, 216, 217, 218, 219, 220, 221, 222, 223, 224, 225, 226, 227, 228, 229, 230, 231, 232] (by decide +kernel) (by decide +kernel)
set_option maxRecDepth 20000 in
theorem gX10_first_X10_of : GoodIn wsX10_first (wsV RX10 70 RX10 yX10_of wsX10_of) := goodIn_app (goodIn_of _ (by decide +kernel)) ggX10_first_X10_of
theorem dX10_first_0 : decode cX10_first 0 = .ok (.aload_n 0, 1) := by decide +kernel
theorem dX10_first_1 : decode cX10_first 1 = .ok (.iconst 0, 1) := by decide +kernel
theorem dX10_first_2 : decode cX10_first 2 = .ok (.putfield 63, 3) := by decide +kernel
theorem dX10_first_5 : decode cX10_first 5 = .ok (.aload_n 0, 1) := by decide +kernel
theorem dX10_first_6 : decode cX10_first 6 = .ok (.invokevirtual 288, 3) := by decide +kernel
theorem dX10_first_9 : decode cX10_first 9 = .ok (.iconst 0, 1) := by decide +kernel
theorem dX10_first_10 : decode cX10_first 10 = .ok (.istore_n 1, 1) := by decide +kernel
theorem dX10_first_11 : decode cX10_first 11 = .ok (.iload_n 1, 1) := by decide +kernel
theorem dX10_first_12 : decode cX10_first 12 = .ok (.bipush 20, 2) := by decide +kernel
theorem dX10_first_14 : decode cX10_first 14 = .ok (.if_icmp .ge 41, 3) := by decide +kernel
theorem dX10_first_17 : decode cX10_first 17 = .ok (.aload_n 0, 1) := by decide +kernel
theorem dX10_first_18 : decode cX10_first 18 = .ok (.iload_n 1, 1) := by decide +kernel
theorem dX10_first_19 : decode cX10_first 19 = .ok (.invokevirtual 122, 3) := by decide +kernel
theorem dX10_first_22 : decode cX10_first 22 = .ok (.istore_n 2, 1) := by decide +kernel
theorem dX10_first_23 : decode cX10_first 23 = .ok (.iload_n 2, 1) := by decide +kernel
theorem dX10_first_24 : decode cX10_first 24 = .ok (.iconst (-1), 1) := by decide +kernel
theorem dX10_first_25 : decode cX10_first 25 = .ok (.if_icmp .eq 24, 3) := by decide +kernel
theorem dX10_first_28 : decode cX10_first 28 = .ok (.aload_n 0, 1) := by decide +kernel
theorem dX10_first_29 : decode cX10_first 29 = .ok (.iload_n 2, 1) := by decide +kernel
theorem dX10_first_30 : decode cX10_first 30 = .ok (.iconst 3, 1) := by decide +kernel
theorem dX10_first_31 : decode cX10_first 31 = .ok (.invokevirtual 70, 3) := by decide +kernel
theorem dX10_first_34 : decode cX10_first 34 = .ok (.iconst 1, 1) := by decide +kernel
theorem dX10_first_35 : decode cX10_first 35 = .ok (.if_icmp .ne 14, 3) := by decide +kernel
theorem dX10_first_38 : decode cX10_first 38 = .ok (.aload_n 0, 1) := by decide +kernel
theorem dX10_first_39 : decode cX10_first 39 = .ok (.getfield 41, 3) := by decide +kernel
theorem dX10_first_42 : decode cX10_first 42 = .ok (.iload_n 2, 1) := by decide +kernel
theorem dX10_first_43 : decode cX10_first 43 = .ok (.iaload, 1) := by decide +kernel
theorem dX10_first_44 : decode cX10_first 44 = .ok (.ifCond .ne 5, 3) := by decide +kernel
theorem dX10_first_47 : decode cX10_first 47 = .ok (.iload_n 2, 1) := by decide +kernel
theorem dX10_first_48 : decode cX10_first 48 = .ok (.ireturn, 1) := by decide +kernel
theorem dX10_first_49 : decode cX10_first 49 = .ok (.iinc 1 1, 3) := by decide +kernel
theorem dX10_first_52 : decode cX10_first 52 = .ok (.goto (-41), 3) := by decide +kernel
theorem dX10_first_55 : decode cX10_first 55 = .ok (.iconst (-1), 1) := by decide +kernel
theorem dX10_first_56 : decode cX10_first 56 = .ok (.ireturn, 1) := by decide +kernel
set_option maxRecDepth 20000 in
theorem ggX10_finds_X10_isOf : GoodIn wsX10_finds wsX10_isOf := goodIn_r _ [8] (by decide +kernel) (by decide +kernel)
set_option maxRecDepth 20000 in
theorem gX10_finds_X10_isOf : GoodIn wsX10_finds (va_wsS RX10 117 yX10_isOf wsX10_isOf) := goodIn_app (goodIn_of _ (by decide +kernel)) ggX10_finds_X10_isOf
set_option maxRecDepth 20000 in
theorem ggX10_finds_X10_of : GoodIn wsX10_finds wsX10_of := goodIn_r _ [12, 1, 16, 17, 18, 19, 20, 21, 22, 23, 24, 25, 26, 27, 28, 29, 30, 31, 32, 33, 34, 35, 36, 37, 38, 39, 40, 41, 42, 43] (by decide +kernel) (by decide +kernel)
set_option maxRecDepth 20000 in
theorem gX10_finds_X10_of : GoodIn wsX10_finds (wsV RX10 70 RX10 yX10_of wsX10_of) := goodIn_app (goodIn_of _ (by decide +kernel)) ggX10_finds_X10_of
set_option maxRecDepth 20000 in
theorem ggX10_finds_X10_finds : GoodIn wsX10_finds wsX10_finds := goodIn_r _ [0, 1, 2, 3, 4, 5, 6, 7, 8, 9, 10, 11, 12, 13, 14, 15, 16, 17, 18, 19, 20, 21, 22, 23, 24, 25, 26, 27, 28, 29, 30, 31, 32, 33, 34, 35, 36, 37, 38, 39, 40, 41, 42, 43] (by decide +kernel) (by decide +kernel)
set_option maxRecDepth 20000 in
theorem gX10_finds_X10_finds : GoodIn wsX10_finds (wsV RX10 315 RX10 yX10_finds wsX10_finds) := goodIn_app (goodIn_of _ (by decide +kernel)) ggX10_finds_X10_finds
theorem dX10_finds_0 : decode cX10_finds 0 = .ok (.iconst 0, 1) := by decide +kernel
theorem dX10_finds_1 : decode cX10_finds 1 = .ok (.istore_n 3, 1) := by decide +kernel
theorem dX10_finds_2 : decode cX10_finds 2 = .ok (.iload_n 3, 1) := by decide +kernel
theorem dX10_finds_3 : decode cX10_finds 3 = .ok (.aload_n 0, 1) := by decide +kernel
theorem dX10_finds_4 : decode cX10_finds 4 = .ok (.getfield 7, 3) := by decide +kernel
theorem dX10_finds_7 : decode cX10_finds 7 = .ok (.iconst 3, 1) := by decide +kernel
theorem dX10_finds_8 : decode cX10_finds 8 = .ok (.iaload, 1) := by decide +kernel
theorem dX10_finds_9 : decode cX10_finds 9 = .ok (.if_icmp .ge 63, 3) := by decide +kernel
theorem dX10_finds_12 : decode cX10_finds 12 = .ok (.aload_n 0, 1) := by decide +kernel
theorem dX10_finds_13 : decode cX10_finds 13 = .ok (.getfield 47, 3) := by decide +kernel
theorem dX10_finds_16 : decode cX10_finds 16 = .ok (.iload_n 1, 1) := by decide +kernel
theorem dX10_finds_17 : decode cX10_finds 17 = .ok (.iaload, 1) := by decide +kernel
theorem dX10_finds_18 : decode cX10_finds 18 = .ok (.iload_n 2, 1) := by decide +kernel
theorem dX10_finds_19 : decode cX10_finds 19 = .ok (.iconst (-1), 1) := by decide +kernel
theorem dX10_finds_20 : decode cX10_finds 20 = .ok (.ixor, 1) := by decide +kernel
theorem dX10_finds_21 : decode cX10_finds 21 = .ok (.iand, 1) := by decide +kernel
theorem dX10_finds_22 : decode cX10_finds 22 = .ok (.iload_n 3, 1) := by decide +kernel
theorem dX10_finds_23 : decode cX10_finds 23 = .ok (.invokestatic 117, 3) := by decide +kernel
theorem dX10_finds_26 : decode cX10_finds 26 = .ok (.ifCond .eq 40, 3) := by decide +kernel
theorem dX10_finds_29 : decode cX10_finds 29 = .ok (.aload_n 0, 1) := by decide +kernel
theorem dX10_finds_30 : decode cX10_finds 30 = .ok (.getfield 41, 3) := by decide +kernel
theorem dX10_finds_33 : decode cX10_finds 33 = .ok (.iload_n 3, 1) := by decide +kernel
theorem dX10_finds_34 : decode cX10_finds 34 = .ok (.iaload, 1) := by decide +kernel
theorem dX10_finds_35 : decode cX10_finds 35 = .ok (.aload_n 0, 1) := by decide +kernel
theorem dX10_finds_36 : decode cX10_finds 36 = .ok (.iload_n 3, 1) := by decide +kernel
theorem dX10_finds_37 : decode cX10_finds 37 = .ok (.iconst 2, 1) := by decide +kernel
theorem dX10_finds_38 : decode cX10_finds 38 = .ok (.invokevirtual 70, 3) := by decide +kernel
theorem dX10_finds_41 : decode cX10_finds 41 = .ok (.if_icmp .ne 6, 3) := by decide +kernel
theorem dX10_finds_44 : decode cX10_finds 44 = .ok (.goto 22, 3) := by decide +kernel
theorem dX10_finds_47 : decode cX10_finds 47 = .ok (.aload_n 0, 1) := by decide +kernel
theorem dX10_finds_48 : decode cX10_finds 48 = .ok (.getfield 44, 3) := by decide +kernel
theorem dX10_finds_51 : decode cX10_finds 51 = .ok (.iload_n 1, 1) := by decide +kernel
theorem dX10_finds_52 : decode cX10_finds 52 = .ok (.iload_n 3, 1) := by decide +kernel
theorem dX10_finds_53 : decode cX10_finds 53 = .ok (.iastore, 1) := by decide +kernel
theorem dX10_finds_54 : decode cX10_finds 54 = .ok (.aload_n 0, 1) := by decide +kernel
theorem dX10_finds_55 : decode cX10_finds 55 = .ok (.getfield 41, 3) := by decide +kernel
theorem dX10_finds_58 : decode cX10_finds 58 = .ok (.iload_n 3, 1) := by decide +kernel
theorem dX10_finds_59 : decode cX10_finds 59 = .ok (.dup2, 1) := by decide +kernel
theorem dX10_finds_60 : decode cX10_finds 60 = .ok (.iaload, 1) := by decide +kernel
theorem dX10_finds_61 : decode cX10_finds 61 = .ok (.iconst 1, 1) := by decide +kernel
theorem dX10_finds_62 : decode cX10_finds 62 = .ok (.iadd, 1) := by decide +kernel
theorem dX10_finds_63 : decode cX10_finds 63 = .ok (.iastore, 1) := by decide +kernel
theorem dX10_finds_64 : decode cX10_finds 64 = .ok (.iconst 1, 1) := by decide +kernel
theorem dX10_finds_65 : decode cX10_finds 65 = .ok (.ireturn, 1) := by decide +kernel
theorem dX10_finds_66 : decode cX10_finds 66 = .ok (.iinc 3 1, 3) := by decide +kernel
theorem dX10_finds_69 : decode cX10_finds 69 = .ok (.goto (-67), 3) := by decide +kernel
theorem dX10_finds_72 : decode cX10_finds 72 = .ok (.iconst 0, 1) := by decide +kernel
theorem dX10_finds_73 : decode cX10_finds 73 = .ok (.istore_n 3, 1) := by decide +kernel
theorem dX10_finds_74 : decode cX10_finds 74 = .ok (.iload_n 3, 1) := by decide +kernel
theorem dX10_finds_75 : decode cX10_finds 75 = .ok (.aload_n 0, 1) := by decide +kernel
theorem dX10_finds_76 : decode cX10_finds 76 = .ok (.getfield 7, 3) := by decide +kernel
theorem dX10_finds_79 : decode cX10_finds 79 = .ok (.iconst 4, 1) := by decide +kernel
theorem dX10_finds_80 : decode cX10_finds 80 = .ok (.iaload, 1) := by decide +kernel
theorem dX10_finds_81 : decode cX10_finds 81 = .ok (.if_icmp .ge 81, 3) := by decide +kernel
theorem dX10_finds_84 : decode cX10_finds 84 = .ok (.aload_n 0, 1) := by decide +kernel
theorem dX10_finds_85 : decode cX10_finds 85 = .ok (.getfield 44, 3) := by decide +kernel
theorem dX10_finds_88 : decode cX10_finds 88 = .ok (.iload_n 3, 1) := by decide +kernel
theorem dX10_finds_89 : decode cX10_finds 89 = .ok (.iaload, 1) := by decide +kernel
theorem dX10_finds_90 : decode cX10_finds 90 = .ok (.iconst (-1), 1) := by decide +kernel
theorem dX10_finds_91 : decode cX10_finds 91 = .ok (.if_icmp .eq 65, 3) := by decide +kernel
theorem dX10_finds_94 : decode cX10_finds 94 = .ok (.aload_n 0, 1) := by decide +kernel
theorem dX10_finds_95 : decode cX10_finds 95 = .ok (.getfield 47, 3) := by decide +kernel
theorem dX10_finds_98 : decode cX10_finds 98 = .ok (.iload_n 1, 1) := by decide +kernel
theorem dX10_finds_99 : decode cX10_finds 99 = .ok (.iaload, 1) := by decide +kernel
theorem dX10_finds_100 : decode cX10_finds 100 = .ok (.iload_n 2, 1) := by decide +kernel
theorem dX10_finds_101 : decode cX10_finds 101 = .ok (.iconst (-1), 1) := by decide +kernel
theorem dX10_finds_102 : decode cX10_finds 102 = .ok (.ixor, 1) := by decide +kernel
theorem dX10_finds_103 : decode cX10_finds 103 = .ok (.iand, 1) := by decide +kernel
theorem dX10_finds_104 : decode cX10_finds 104 = .ok (.aload_n 0, 1) := by decide +kernel
theorem dX10_finds_105 : decode cX10_finds 105 = .ok (.getfield 44, 3) := by decide +kernel
theorem dX10_finds_108 : decode cX10_finds 108 = .ok (.iload_n 3, 1) := by decide +kernel
theorem dX10_finds_109 : decode cX10_finds 109 = .ok (.iaload, 1) := by decide +kernel
theorem dX10_finds_110 : decode cX10_finds 110 = .ok (.invokestatic 117, 3) := by decide +kernel
theorem dX10_finds_113 : decode cX10_finds 113 = .ok (.ifCond .ne 6, 3) := by decide +kernel
theorem dX10_finds_116 : decode cX10_finds 116 = .ok (.goto 40, 3) := by decide +kernel
theorem dX10_finds_119 : decode cX10_finds 119 = .ok (.aload_n 0, 1) := by decide +kernel
theorem dX10_finds_120 : decode cX10_finds 120 = .ok (.getfield 44, 3) := by decide +kernel
theorem dX10_finds_123 : decode cX10_finds 123 = .ok (.iload_n 3, 1) := by decide +kernel
theorem dX10_finds_124 : decode cX10_finds 124 = .ok (.iaload, 1) := by decide +kernel
theorem dX10_finds_125 : decode cX10_finds 125 = .ok (.istore 4, 2) := by decide +kernel
theorem dX10_finds_127 : decode cX10_finds 127 = .ok (.aload_n 0, 1) := by decide +kernel
theorem dX10_finds_128 : decode cX10_finds 128 = .ok (.iload_n 3, 1) := by decide +kernel
theorem dX10_finds_129 : decode cX10_finds 129 = .ok (.iload_n 2, 1) := by decide +kernel
theorem dX10_finds_130 : decode cX10_finds 130 = .ok (.aload_n 0, 1) := by decide +kernel
theorem dX10_finds_131 : decode cX10_finds 131 = .ok (.getfield 47, 3) := by decide +kernel
theorem dX10_finds_134 : decode cX10_finds 134 = .ok (.iload_n 1, 1) := by decide +kernel
theorem dX10_finds_135 : decode cX10_finds 135 = .ok (.iaload, 1) := by decide +kernel
theorem dX10_finds_136 : decode cX10_finds 136 = .ok (.ior, 1) := by decide +kernel
theorem dX10_finds_137 : decode cX10_finds 137 = .ok (.invokevirtual 315, 3) := by decide +kernel
theorem dX10_finds_140 : decode cX10_finds 140 = .ok (.ifCond .ne 6, 3) := by decide +kernel
theorem dX10_finds_143 : decode cX10_finds 143 = .ok (.goto 13, 3) := by decide +kernel
theorem dX10_finds_146 : decode cX10_finds 146 = .ok (.aload_n 0, 1) := by decide +kernel
theorem dX10_finds_147 : decode cX10_finds 147 = .ok (.getfield 44, 3) := by decide +kernel
theorem dX10_finds_150 : decode cX10_finds 150 = .ok (.iload_n 1, 1) := by decide +kernel
theorem dX10_finds_151 : decode cX10_finds 151 = .ok (.iload 4, 2) := by decide +kernel
theorem dX10_finds_153 : decode cX10_finds 153 = .ok (.iastore, 1) := by decide +kernel
theorem dX10_finds_154 : decode cX10_finds 154 = .ok (.iconst 1, 1) := by decide +kernel
theorem dX10_finds_155 : decode cX10_finds 155 = .ok (.ireturn, 1) := by decide +kernel
theorem dX10_finds_156 : decode cX10_finds 156 = .ok (.iinc 3 1, 3) := by decide +kernel
theorem dX10_finds_159 : decode cX10_finds 159 = .ok (.goto (-85), 3) := by decide +kernel
theorem dX10_finds_162 : decode cX10_finds 162 = .ok (.iconst 0, 1) := by decide +kernel
theorem dX10_finds_163 : decode cX10_finds 163 = .ok (.ireturn, 1) := by decide +kernel
set_option maxRecDepth 20000 in
theorem ggX10_areHad_X10_isOf : GoodIn wsX10_areHad wsX10_isOf := goodIn_r _ [7] (by decide +kernel) (by decide +kernel)
set_option maxRecDepth 20000 in
theorem gX10_areHad_X10_isOf : GoodIn wsX10_areHad (va_wsS RX10 117 yX10_isOf wsX10_isOf) := goodIn_app (goodIn_of _ (by decide +kernel)) ggX10_areHad_X10_isOf
set_option maxRecDepth 20000 in
theorem ggX10_areHad_X10_finds : GoodIn wsX10_areHad wsX10_finds := goodIn_r _ [11, 3, 12, 1, 2, 4, 5, 6, 7, 13, 14, 15, 16, 8, 9, 10, 17, 18, 19, 20, 21, 22, 23, 24, 25, 26, 27, 28, 29, 30, 31, 32, 33, 34, 35, 36, 37, 38, 39, 40, 41, 42, 43, 44] (by decide +kernel) (by decide +kernel)
set_option maxRecDepth 20000 in
theorem gX10_areHad_X10_finds : GoodIn wsX10_areHad (wsV RX10 315 RX10 yX10_finds wsX10_finds) := goodIn_app (goodIn_of _ (by decide +kernel)) ggX10_areHad_X10_finds
theorem dX10_areHad_0 : decode cX10_areHad 0 = .ok (.iconst 0, 1) := by decide +kernel
theorem dX10_areHad_1 : decode cX10_areHad 1 = .ok (.istore_n 2, 1) := by decide +kernel
theorem dX10_areHad_2 : decode cX10_areHad 2 = .ok (.iload_n 2, 1) := by decide +kernel
theorem dX10_areHad_3 : decode cX10_areHad 3 = .ok (.bipush 9, 2) := by decide +kernel
theorem dX10_areHad_5 : decode cX10_areHad 5 = .ok (.if_icmp .ge 16, 3) := by decide +kernel
theorem dX10_areHad_8 : decode cX10_areHad 8 = .ok (.aload_n 0, 1) := by decide +kernel
theorem dX10_areHad_9 : decode cX10_areHad 9 = .ok (.getfield 41, 3) := by decide +kernel
theorem dX10_areHad_12 : decode cX10_areHad 12 = .ok (.iload_n 2, 1) := by decide +kernel
theorem dX10_areHad_13 : decode cX10_areHad 13 = .ok (.iconst 0, 1) := by decide +kernel
theorem dX10_areHad_14 : decode cX10_areHad 14 = .ok (.iastore, 1) := by decide +kernel
theorem dX10_areHad_15 : decode cX10_areHad 15 = .ok (.iinc 2 1, 3) := by decide +kernel
theorem dX10_areHad_18 : decode cX10_areHad 18 = .ok (.goto (-16), 3) := by decide +kernel
theorem dX10_areHad_21 : decode cX10_areHad 21 = .ok (.iconst 0, 1) := by decide +kernel
theorem dX10_areHad_22 : decode cX10_areHad 22 = .ok (.istore_n 2, 1) := by decide +kernel
theorem dX10_areHad_23 : decode cX10_areHad 23 = .ok (.iload_n 2, 1) := by decide +kernel
theorem dX10_areHad_24 : decode cX10_areHad 24 = .ok (.bipush 10, 2) := by decide +kernel
theorem dX10_areHad_26 : decode cX10_areHad 26 = .ok (.if_icmp .ge 16, 3) := by decide +kernel
theorem dX10_areHad_29 : decode cX10_areHad 29 = .ok (.aload_n 0, 1) := by decide +kernel
theorem dX10_areHad_30 : decode cX10_areHad 30 = .ok (.getfield 44, 3) := by decide +kernel
theorem dX10_areHad_33 : decode cX10_areHad 33 = .ok (.iload_n 2, 1) := by decide +kernel
theorem dX10_areHad_34 : decode cX10_areHad 34 = .ok (.iconst (-1), 1) := by decide +kernel
theorem dX10_areHad_35 : decode cX10_areHad 35 = .ok (.iastore, 1) := by decide +kernel
theorem dX10_areHad_36 : decode cX10_areHad 36 = .ok (.iinc 2 1, 3) := by decide +kernel
theorem dX10_areHad_39 : decode cX10_areHad 39 = .ok (.goto (-16), 3) := by decide +kernel
theorem dX10_areHad_42 : decode cX10_areHad 42 = .ok (.iconst 0, 1) := by decide +kernel
theorem dX10_areHad_43 : decode cX10_areHad 43 = .ok (.istore_n 2, 1) := by decide +kernel
theorem dX10_areHad_44 : decode cX10_areHad 44 = .ok (.iload_n 2, 1) := by decide +kernel
theorem dX10_areHad_45 : decode cX10_areHad 45 = .ok (.aload_n 0, 1) := by decide +kernel
theorem dX10_areHad_46 : decode cX10_areHad 46 = .ok (.getfield 7, 3) := by decide +kernel
theorem dX10_areHad_49 : decode cX10_areHad 49 = .ok (.iconst 4, 1) := by decide +kernel
theorem dX10_areHad_50 : decode cX10_areHad 50 = .ok (.iaload, 1) := by decide +kernel
theorem dX10_areHad_51 : decode cX10_areHad 51 = .ok (.if_icmp .ge 28, 3) := by decide +kernel
theorem dX10_areHad_54 : decode cX10_areHad 54 = .ok (.iload_n 1, 1) := by decide +kernel
theorem dX10_areHad_55 : decode cX10_areHad 55 = .ok (.iload_n 2, 1) := by decide +kernel
theorem dX10_areHad_56 : decode cX10_areHad 56 = .ok (.invokestatic 117, 3) := by decide +kernel
theorem dX10_areHad_59 : decode cX10_areHad 59 = .ok (.ifCond .eq 14, 3) := by decide +kernel
theorem dX10_areHad_62 : decode cX10_areHad 62 = .ok (.aload_n 0, 1) := by decide +kernel
theorem dX10_areHad_63 : decode cX10_areHad 63 = .ok (.iload_n 2, 1) := by decide +kernel
theorem dX10_areHad_64 : decode cX10_areHad 64 = .ok (.iconst 0, 1) := by decide +kernel
theorem dX10_areHad_65 : decode cX10_areHad 65 = .ok (.invokevirtual 315, 3) := by decide +kernel
theorem dX10_areHad_68 : decode cX10_areHad 68 = .ok (.ifCond .ne 5, 3) := by decide +kernel
theorem dX10_areHad_71 : decode cX10_areHad 71 = .ok (.iconst 0, 1) := by decide +kernel
theorem dX10_areHad_72 : decode cX10_areHad 72 = .ok (.ireturn, 1) := by decide +kernel
theorem dX10_areHad_73 : decode cX10_areHad 73 = .ok (.iinc 2 1, 3) := by decide +kernel
theorem dX10_areHad_76 : decode cX10_areHad 76 = .ok (.goto (-32), 3) := by decide +kernel
theorem dX10_areHad_79 : decode cX10_areHad 79 = .ok (.iconst 1, 1) := by decide +kernel
theorem dX10_areHad_80 : decode cX10_areHad 80 = .ok (.ireturn, 1) := by decide +kernel
set_option maxRecDepth 20000 in
theorem ggX10_looks_X10_asks : GoodIn wsX10_looks wsX10_asks := goodIn_r _ [7, 1, 8, 9, 10, 11, 6, 12, 13, 14, 15, 16, 17, 18, 19, 20, 21, 22, 23, 24, 25, 26, 27, 28, 29, 30, 31, 32, 33, 34, 35, 36, 37, 38, 39, 40, 41, 42, 43, 44, 45, 46, 47, 48, 49, 50, 51, 52, 53, 54, 55, 56, 57, 58, 59, 60, 61, 62, 63, 64, 65, 66, 67, 68, 69, 70, 71, 72, 73, 74, 75, 76, 77, 78, 79, 80, 81, 82, 83, 84, 85, 86, 87, 88, 89, 90, 91, 92, 93, 94, 95, 96, 97, 98, 99, 100, 101, 102, 103, 104, 105, 106, 107, 108, 109, 110, 111, 112, 113, 114, 115, 116, 117, 118, 119, 120, 121, 122, 123, 124, 125, 126, 127, 128, 129, 130, 131, 132, 133, 134, 135, 136, 137, 138, 139, 140, 141, 142, 143, 144, 145, 146, 147, 148, 149, 150, 151, 152, 153, 154, 155, 156, 157, 158, 159, 160, 161, 162, 163, 164, 165, 166, 167, 168, 169, 170, 171, 172, 185, 186, 187, 188, 189, 190, 191, 192, 193, 194, 195, 196, 197, 198, 199, 200, 201, 202, 203, 204, 205, 206, 207, 208, 209, 210, 211, 212] (by decide +kernel) (by decide +kernel)
set_option maxRecDepth 20000 in
theorem gX10_looks_X10_asks : GoodIn wsX10_looks (wsV RX10 272 RX10 yX10_asks wsX10_asks) := goodIn_app (goodIn_of _ (by decide +kernel)) ggX10_looks_X10_asks
set_option maxRecDepth 20000 in
theorem ggX10_looks_X10_ringing : GoodIn wsX10_looks wsX10_ringing := goodIn_r _ [176, 1, 177, 178, 179, 6, 180, 8, 181, 182, 183, 184, 26, 27, 28, 29, 185, 186, 187, 188, 189, 190, 191, 192, 193, 194, 195, 196, 197, 198, 199, 200, 201, 202, 203, 204, 205, 206, 207, 208, 209, 210, 211, 212] (by decide +kernel) (by decide +kernel)
set_option maxRecDepth 20000 in
theorem gX10_looks_X10_ringing : GoodIn wsX10_looks (wsV RX10 303 RX10 yX10_ringing wsX10_ringing) := goodIn_app (goodIn_of _ (by decide +kernel)) ggX10_looks_X10_ringing
theorem dX10_looks_0 : decode cX10_looks 0 = .ok (.aload_n 0, 1) := by decide +kernel
theorem dX10_looks_1 : decode cX10_looks 1 = .ok (.invokevirtual 272, 3) := by decide +kernel
theorem dX10_looks_4 : decode cX10_looks 4 = .ok (.iconst 0, 1) := by decide +kernel
theorem dX10_looks_5 : decode cX10_looks 5 = .ok (.istore_n 1, 1) := by decide +kernel
theorem dX10_looks_6 : decode cX10_looks 6 = .ok (.iload_n 1, 1) := by decide +kernel
theorem dX10_looks_7 : decode cX10_looks 7 = .ok (.aload_n 0, 1) := by decide +kernel
theorem dX10_looks_8 : decode cX10_looks 8 = .ok (.getfield 7, 3) := by decide +kernel
theorem dX10_looks_11 : decode cX10_looks 11 = .ok (.iconst 4, 1) := by decide +kernel
theorem dX10_looks_12 : decode cX10_looks 12 = .ok (.iaload, 1) := by decide +kernel
theorem dX10_looks_13 : decode cX10_looks 13 = .ok (.if_icmp .ge 20, 3) := by decide +kernel
theorem dX10_looks_16 : decode cX10_looks 16 = .ok (.aload_n 0, 1) := by decide +kernel
theorem dX10_looks_17 : decode cX10_looks 17 = .ok (.getfield 47, 3) := by decide +kernel
theorem dX10_looks_20 : decode cX10_looks 20 = .ok (.iload_n 1, 1) := by decide +kernel
theorem dX10_looks_21 : decode cX10_looks 21 = .ok (.aload_n 0, 1) := by decide +kernel
theorem dX10_looks_22 : decode cX10_looks 22 = .ok (.iload_n 1, 1) := by decide +kernel
theorem dX10_looks_23 : decode cX10_looks 23 = .ok (.invokevirtual 303, 3) := by decide +kernel
theorem dX10_looks_26 : decode cX10_looks 26 = .ok (.iastore, 1) := by decide +kernel
theorem dX10_looks_27 : decode cX10_looks 27 = .ok (.iinc 1 1, 3) := by decide +kernel
theorem dX10_looks_30 : decode cX10_looks 30 = .ok (.goto (-24), 3) := by decide +kernel
theorem dX10_looks_33 : decode cX10_looks 33 = .ok (.return_, 1) := by decide +kernel
set_option maxRecDepth 20000 in
theorem ggX10_most_X10_looks : GoodIn wsX10_most wsX10_looks := goodIn_r _ [7, 2, 8, 9, 10, 11, 6, 12, 13, 14, 15, 16, 17, 18, 19, 20, 21, 22, 23, 24, 25, 26, 27, 28, 29, 30, 31, 32, 33, 34, 35, 36, 37, 38, 39, 40, 41, 42, 43, 44, 45, 46, 47, 48, 49, 50, 51, 52, 53, 54, 55, 56, 57, 58, 59, 60, 61, 62, 63, 64, 65, 66, 67, 68, 69, 70, 71, 72, 73, 74, 75, 76, 77, 78, 79, 80, 81, 82, 83, 84, 85, 86, 87, 88, 89, 90, 91, 92, 93, 94, 95, 96, 97, 98, 99, 100, 101, 102, 103, 104, 105, 106, 107, 108, 109, 110, 111, 112, 113, 114, 115, 116, 117, 118, 119, 120, 121, 122, 123, 124, 125, 126, 127, 128, 129, 130, 131, 132, 133, 134, 135, 136, 137, 138, 139, 140, 141, 142, 143, 144, 145, 146, 147, 148, 149, 150, 151, 152, 153, 154, 155, 156, 157, 158, 159, 160, 161, 162, 163, 164, 165, 166, 167, 168, 169, 170, 171, 172, 173, 174, 175, 176, 177, 178, 179, 180, 181, 182, 183, 184, 185, 186, 187, 188, 189, 203, 204, 205, 206, 207, 208, 209, 210, 211, 212, 213, 214, 215, 216, 217, 218, 219, 220, 221, 222, 223, 224, 225, 226, 227, 228, 229, 230] (by decide +kernel) (by decide +kernel)
set_option maxRecDepth 20000 in
theorem gX10_most_X10_looks : GoodIn wsX10_most (wsV RX10 318 RX10 yX10_looks wsX10_looks) := goodIn_app (goodIn_of _ (by decide +kernel)) ggX10_most_X10_looks
set_option maxRecDepth 20000 in
theorem ggX10_most_X10_bits : GoodIn wsX10_most wsX10_bits := goodIn_r _ [192] (by decide +kernel) (by decide +kernel)
set_option maxRecDepth 20000 in
theorem gX10_most_X10_bits : GoodIn wsX10_most (va_wsS RX10 321 yX10_bits wsX10_bits) := goodIn_app (goodIn_of _ (by decide +kernel)) ggX10_most_X10_bits
set_option maxRecDepth 20000 in
theorem ggX10_most_X10_areHad : GoodIn wsX10_most wsX10_areHad := goodIn_r _ [196, 197, 198, 2, 136, 137, 6, 138, 199, 200, 201, 202, 8, 31, 32, 33, 34, 203, 204, 205, 206, 207, 208, 209, 210, 211, 212, 213, 214, 215, 216, 217, 218, 219, 220, 221, 222, 223, 224, 225, 226, 227, 228, 229, 230] (by decide +kernel) (by decide +kernel)
set_option maxRecDepth 20000 in
theorem gX10_most_X10_areHad : GoodIn wsX10_most (wsV RX10 324 RX10 yX10_areHad wsX10_areHad) := goodIn_app (goodIn_of _ (by decide +kernel)) ggX10_most_X10_areHad
theorem dX10_most_0 : decode cX10_most 0 = .ok (.aload_n 0, 1) := by decide +kernel
theorem dX10_most_1 : decode cX10_most 1 = .ok (.iconst 0, 1) := by decide +kernel
theorem dX10_most_2 : decode cX10_most 2 = .ok (.putfield 63, 3) := by decide +kernel
theorem dX10_most_5 : decode cX10_most 5 = .ok (.aload_n 0, 1) := by decide +kernel
theorem dX10_most_6 : decode cX10_most 6 = .ok (.invokevirtual 318, 3) := by decide +kernel
theorem dX10_most_9 : decode cX10_most 9 = .ok (.iconst 0, 1) := by decide +kernel
theorem dX10_most_10 : decode cX10_most 10 = .ok (.istore_n 1, 1) := by decide +kernel
theorem dX10_most_11 : decode cX10_most 11 = .ok (.iconst 0, 1) := by decide +kernel
theorem dX10_most_12 : decode cX10_most 12 = .ok (.istore_n 2, 1) := by decide +kernel
theorem dX10_most_13 : decode cX10_most 13 = .ok (.iload_n 2, 1) := by decide +kernel
theorem dX10_most_14 : decode cX10_most 14 = .ok (.iconst 1, 1) := by decide +kernel
theorem dX10_most_15 : decode cX10_most 15 = .ok (.aload_n 0, 1) := by decide +kernel
theorem dX10_most_16 : decode cX10_most 16 = .ok (.getfield 7, 3) := by decide +kernel
theorem dX10_most_19 : decode cX10_most 19 = .ok (.iconst 4, 1) := by decide +kernel
theorem dX10_most_20 : decode cX10_most 20 = .ok (.iaload, 1) := by decide +kernel
theorem dX10_most_21 : decode cX10_most 21 = .ok (.ishl, 1) := by decide +kernel
theorem dX10_most_22 : decode cX10_most 22 = .ok (.if_icmp .ge 30, 3) := by decide +kernel
theorem dX10_most_25 : decode cX10_most 25 = .ok (.iload_n 2, 1) := by decide +kernel
theorem dX10_most_26 : decode cX10_most 26 = .ok (.invokestatic 321, 3) := by decide +kernel
theorem dX10_most_29 : decode cX10_most 29 = .ok (.iload_n 1, 1) := by decide +kernel
theorem dX10_most_30 : decode cX10_most 30 = .ok (.invokestatic 321, 3) := by decide +kernel
theorem dX10_most_33 : decode cX10_most 33 = .ok (.if_icmp .le 13, 3) := by decide +kernel
theorem dX10_most_36 : decode cX10_most 36 = .ok (.aload_n 0, 1) := by decide +kernel
theorem dX10_most_37 : decode cX10_most 37 = .ok (.iload_n 2, 1) := by decide +kernel
theorem dX10_most_38 : decode cX10_most 38 = .ok (.invokevirtual 324, 3) := by decide +kernel
theorem dX10_most_41 : decode cX10_most 41 = .ok (.ifCond .eq 5, 3) := by decide +kernel
theorem dX10_most_44 : decode cX10_most 44 = .ok (.iload_n 2, 1) := by decide +kernel
theorem dX10_most_45 : decode cX10_most 45 = .ok (.istore_n 1, 1) := by decide +kernel
theorem dX10_most_46 : decode cX10_most 46 = .ok (.iinc 2 1, 3) := by decide +kernel
theorem dX10_most_49 : decode cX10_most 49 = .ok (.goto (-36), 3) := by decide +kernel
theorem dX10_most_52 : decode cX10_most 52 = .ok (.iload_n 1, 1) := by decide +kernel
theorem dX10_most_53 : decode cX10_most 53 = .ok (.ireturn, 1) := by decide +kernel
set_option maxRecDepth 20000 in
theorem ggX10_cannot_X10_looks : GoodIn wsX10_cannot wsX10_looks := goodIn_r _ [7, 2, 8, 9, 10, 11, 6, 12, 13, 14, 15, 16, 17, 18, 19, 20, 21, 22, 23, 24, 25, 26, 27, 28, 29, 30, 31, 32, 33, 34, 35, 36, 37, 38, 39, 40, 41, 42, 43, 44, 45, 46, 47, 48, 49, 50, 51, 52, 53, 54, 55, 56, 57, 58, 59, 60, 61, 62, 63, 64, 65, 66, 67, 68, 69, 70, 71, 72, 73, 74, 75, 76, 77, 78, 79, 80, 81, 82, 83, 84, 85, 86, 87, 88, 89, 90, 91, 92, 93, 94, 95, 96, 97, 98, 99, 100, 101, 102, 103, 104, 105, 106, 107, 108, 109, 110, 111, 112, 113, 114, 115, 116, 117, 118, 119, 120, 121, 122, 123, 124, 125, 126, 127, 128, 129, 130, 131, 132, 133, 134, 135, 136, 137, 138, 139, 140, 141, 142, 143, 144, 145, 146, 147, 148, 149, 150, 151, 152, 153, 154, 155, 156, 157, 158, 159, 160, 161, 162, 163, 164, 165, 166, 167, 168, 169, 170, 171, 172, 173, 174, 175, 176, 177, 178, 179, 180, 181, 182, 183, 184, 185, 186, 187, 188, 189, 203, 204, 205, 206, 207, 208, 209, 210, 211, 212, 213, 214, 215, 216, 217, 218, 219, 220, 221, 222, 223, 224, 225, 226, 227, 228, 229, 230] (by decide +kernel) (by decide +kernel)
set_option maxRecDepth 20000 in
theorem gX10_cannot_X10_looks : GoodIn wsX10_cannot (wsV RX10 318 RX10 yX10_looks wsX10_looks) := goodIn_app (goodIn_of _ (by decide +kernel)) ggX10_cannot_X10_looks
set_option maxRecDepth 20000 in
theorem ggX10_cannot_X10_bits : GoodIn wsX10_cannot wsX10_bits := goodIn_r _ [192] (by decide +kernel) (by decide +kernel)
set_option maxRecDepth 20000 in
theorem gX10_cannot_X10_bits : GoodIn wsX10_cannot (va_wsS RX10 321 yX10_bits wsX10_bits) := goodIn_app (goodIn_of _ (by decide +kernel)) ggX10_cannot_X10_bits
set_option maxRecDepth 20000 in
theorem ggX10_cannot_X10_areHad : GoodIn wsX10_cannot wsX10_areHad := goodIn_r _ [196, 197, 198, 2, 136, 137, 6, 138, 199, 200, 201, 202, 8, 31, 32, 33, 34, 203, 204, 205, 206, 207, 208, 209, 210, 211, 212, 213, 214, 215, 216, 217, 218, 219, 220, 221, 222, 223, 224, 225, 226, 227, 228, 229, 230] (by decide +kernel) (by decide +kernel)
set_option maxRecDepth 20000 in
theorem gX10_cannot_X10_areHad : GoodIn wsX10_cannot (wsV RX10 324 RX10 yX10_areHad wsX10_areHad) := goodIn_app (goodIn_of _ (by decide +kernel)) ggX10_cannot_X10_areHad
theorem dX10_cannot_0 : decode cX10_cannot 0 = .ok (.aload_n 0, 1) := by decide +kernel
theorem dX10_cannot_1 : decode cX10_cannot 1 = .ok (.iconst 0, 1) := by decide +kernel
theorem dX10_cannot_2 : decode cX10_cannot 2 = .ok (.putfield 63, 3) := by decide +kernel
theorem dX10_cannot_5 : decode cX10_cannot 5 = .ok (.aload_n 0, 1) := by decide +kernel
theorem dX10_cannot_6 : decode cX10_cannot 6 = .ok (.invokevirtual 318, 3) := by decide +kernel
theorem dX10_cannot_9 : decode cX10_cannot 9 = .ok (.iconst 0, 1) := by decide +kernel
theorem dX10_cannot_10 : decode cX10_cannot 10 = .ok (.istore_n 1, 1) := by decide +kernel
theorem dX10_cannot_11 : decode cX10_cannot 11 = .ok (.iconst 1, 1) := by decide +kernel
theorem dX10_cannot_12 : decode cX10_cannot 12 = .ok (.istore_n 2, 1) := by decide +kernel
theorem dX10_cannot_13 : decode cX10_cannot 13 = .ok (.iload_n 2, 1) := by decide +kernel
theorem dX10_cannot_14 : decode cX10_cannot 14 = .ok (.iconst 1, 1) := by decide +kernel
theorem dX10_cannot_15 : decode cX10_cannot 15 = .ok (.aload_n 0, 1) := by decide +kernel
theorem dX10_cannot_16 : decode cX10_cannot 16 = .ok (.getfield 7, 3) := by decide +kernel
theorem dX10_cannot_19 : decode cX10_cannot 19 = .ok (.iconst 4, 1) := by decide +kernel
theorem dX10_cannot_20 : decode cX10_cannot 20 = .ok (.iaload, 1) := by decide +kernel
theorem dX10_cannot_21 : decode cX10_cannot 21 = .ok (.ishl, 1) := by decide +kernel
theorem dX10_cannot_22 : decode cX10_cannot 22 = .ok (.if_icmp .ge 34, 3) := by decide +kernel
theorem dX10_cannot_25 : decode cX10_cannot 25 = .ok (.iload_n 1, 1) := by decide +kernel
theorem dX10_cannot_26 : decode cX10_cannot 26 = .ok (.ifCond .eq 14, 3) := by decide +kernel
theorem dX10_cannot_29 : decode cX10_cannot 29 = .ok (.iload_n 2, 1) := by decide +kernel
theorem dX10_cannot_30 : decode cX10_cannot 30 = .ok (.invokestatic 321, 3) := by decide +kernel
theorem dX10_cannot_33 : decode cX10_cannot 33 = .ok (.iload_n 1, 1) := by decide +kernel
theorem dX10_cannot_34 : decode cX10_cannot 34 = .ok (.invokestatic 321, 3) := by decide +kernel
theorem dX10_cannot_37 : decode cX10_cannot 37 = .ok (.if_icmp .ge 13, 3) := by decide +kernel
theorem dX10_cannot_40 : decode cX10_cannot 40 = .ok (.aload_n 0, 1) := by decide +kernel
theorem dX10_cannot_41 : decode cX10_cannot 41 = .ok (.iload_n 2, 1) := by decide +kernel
theorem dX10_cannot_42 : decode cX10_cannot 42 = .ok (.invokevirtual 324, 3) := by decide +kernel
theorem dX10_cannot_45 : decode cX10_cannot 45 = .ok (.ifCond .ne 5, 3) := by decide +kernel
theorem dX10_cannot_48 : decode cX10_cannot 48 = .ok (.iload_n 2, 1) := by decide +kernel
theorem dX10_cannot_49 : decode cX10_cannot 49 = .ok (.istore_n 1, 1) := by decide +kernel
theorem dX10_cannot_50 : decode cX10_cannot 50 = .ok (.iinc 2 1, 3) := by decide +kernel
theorem dX10_cannot_53 : decode cX10_cannot 53 = .ok (.goto (-40), 3) := by decide +kernel
theorem dX10_cannot_56 : decode cX10_cannot 56 = .ok (.iload_n 1, 1) := by decide +kernel
theorem dX10_cannot_57 : decode cX10_cannot 57 = .ok (.ireturn, 1) := by decide +kernel
set_option maxRecDepth 20000 in
theorem ggX10_dearestFrom_X10_stepsOn : GoodIn wsX10_dearestFrom wsX10_stepsOn := goodIn_r _ [7, 8, 9, 1, 10, 11, 12, 13, 2, 14, 15, 16, 6, 17, 18, 19, 20, 21, 22, 23, 24, 25, 26, 27, 28, 29, 30, 31, 32, 33, 34, 35, 36, 37, 38, 39, 40, 41, 42, 43, 44, 45] (by decide +kernel) (by decide +kernel)
set_option maxRecDepth 20000 in
theorem gX10_dearestFrom_X10_stepsOn : GoodIn wsX10_dearestFrom (wsV RX10 327 RX10 yX10_stepsOn wsX10_stepsOn) := goodIn_app (goodIn_of _ (by decide +kernel)) ggX10_dearestFrom_X10_stepsOn
theorem dX10_dearestFrom_0 : decode cX10_dearestFrom 0 = .ok (.iconst 0, 1) := by decide +kernel
theorem dX10_dearestFrom_1 : decode cX10_dearestFrom 1 = .ok (.istore_n 2, 1) := by decide +kernel
theorem dX10_dearestFrom_2 : decode cX10_dearestFrom 2 = .ok (.iload_n 2, 1) := by decide +kernel
theorem dX10_dearestFrom_3 : decode cX10_dearestFrom 3 = .ok (.bipush 10, 2) := by decide +kernel
theorem dX10_dearestFrom_5 : decode cX10_dearestFrom 5 = .ok (.if_icmp .ge 16, 3) := by decide +kernel
theorem dX10_dearestFrom_8 : decode cX10_dearestFrom 8 = .ok (.aload_n 0, 1) := by decide +kernel
theorem dX10_dearestFrom_9 : decode cX10_dearestFrom 9 = .ok (.getfield 44, 3) := by decide +kernel
theorem dX10_dearestFrom_12 : decode cX10_dearestFrom 12 = .ok (.iload_n 2, 1) := by decide +kernel
theorem dX10_dearestFrom_13 : decode cX10_dearestFrom 13 = .ok (.iconst (-1), 1) := by decide +kernel
theorem dX10_dearestFrom_14 : decode cX10_dearestFrom 14 = .ok (.iastore, 1) := by decide +kernel
theorem dX10_dearestFrom_15 : decode cX10_dearestFrom 15 = .ok (.iinc 2 1, 3) := by decide +kernel
theorem dX10_dearestFrom_18 : decode cX10_dearestFrom 18 = .ok (.goto (-16), 3) := by decide +kernel
theorem dX10_dearestFrom_21 : decode cX10_dearestFrom 21 = .ok (.iconst 0, 1) := by decide +kernel
theorem dX10_dearestFrom_22 : decode cX10_dearestFrom 22 = .ok (.istore_n 2, 1) := by decide +kernel
theorem dX10_dearestFrom_23 : decode cX10_dearestFrom 23 = .ok (.iload_n 2, 1) := by decide +kernel
theorem dX10_dearestFrom_24 : decode cX10_dearestFrom 24 = .ok (.bipush 9, 2) := by decide +kernel
theorem dX10_dearestFrom_26 : decode cX10_dearestFrom 26 = .ok (.if_icmp .ge 16, 3) := by decide +kernel
theorem dX10_dearestFrom_29 : decode cX10_dearestFrom 29 = .ok (.aload_n 0, 1) := by decide +kernel
theorem dX10_dearestFrom_30 : decode cX10_dearestFrom 30 = .ok (.getfield 41, 3) := by decide +kernel
theorem dX10_dearestFrom_33 : decode cX10_dearestFrom 33 = .ok (.iload_n 2, 1) := by decide +kernel
theorem dX10_dearestFrom_34 : decode cX10_dearestFrom 34 = .ok (.iconst 0, 1) := by decide +kernel
theorem dX10_dearestFrom_35 : decode cX10_dearestFrom 35 = .ok (.iastore, 1) := by decide +kernel
theorem dX10_dearestFrom_36 : decode cX10_dearestFrom 36 = .ok (.iinc 2 1, 3) := by decide +kernel
theorem dX10_dearestFrom_39 : decode cX10_dearestFrom 39 = .ok (.goto (-16), 3) := by decide +kernel
theorem dX10_dearestFrom_42 : decode cX10_dearestFrom 42 = .ok (.iconst 0, 1) := by decide +kernel
theorem dX10_dearestFrom_43 : decode cX10_dearestFrom 43 = .ok (.istore_n 2, 1) := by decide +kernel
theorem dX10_dearestFrom_44 : decode cX10_dearestFrom 44 = .ok (.aload_n 0, 1) := by decide +kernel
theorem dX10_dearestFrom_45 : decode cX10_dearestFrom 45 = .ok (.iload_n 1, 1) := by decide +kernel
theorem dX10_dearestFrom_46 : decode cX10_dearestFrom 46 = .ok (.invokevirtual 327, 3) := by decide +kernel
theorem dX10_dearestFrom_49 : decode cX10_dearestFrom 49 = .ok (.istore_n 3, 1) := by decide +kernel
theorem dX10_dearestFrom_50 : decode cX10_dearestFrom 50 = .ok (.iload_n 3, 1) := by decide +kernel
theorem dX10_dearestFrom_51 : decode cX10_dearestFrom 51 = .ok (.ifCond .le 16, 3) := by decide +kernel
theorem dX10_dearestFrom_54 : decode cX10_dearestFrom 54 = .ok (.iload_n 2, 1) := by decide +kernel
theorem dX10_dearestFrom_55 : decode cX10_dearestFrom 55 = .ok (.iload_n 3, 1) := by decide +kernel
theorem dX10_dearestFrom_56 : decode cX10_dearestFrom 56 = .ok (.iadd, 1) := by decide +kernel
theorem dX10_dearestFrom_57 : decode cX10_dearestFrom 57 = .ok (.istore_n 2, 1) := by decide +kernel
theorem dX10_dearestFrom_58 : decode cX10_dearestFrom 58 = .ok (.aload_n 0, 1) := by decide +kernel
theorem dX10_dearestFrom_59 : decode cX10_dearestFrom 59 = .ok (.iload_n 1, 1) := by decide +kernel
theorem dX10_dearestFrom_60 : decode cX10_dearestFrom 60 = .ok (.invokevirtual 327, 3) := by decide +kernel
theorem dX10_dearestFrom_63 : decode cX10_dearestFrom 63 = .ok (.istore_n 3, 1) := by decide +kernel
theorem dX10_dearestFrom_64 : decode cX10_dearestFrom 64 = .ok (.goto (-14), 3) := by decide +kernel
theorem dX10_dearestFrom_67 : decode cX10_dearestFrom 67 = .ok (.iload_n 2, 1) := by decide +kernel
theorem dX10_dearestFrom_68 : decode cX10_dearestFrom 68 = .ok (.ireturn, 1) := by decide +kernel
set_option maxRecDepth 20000 in
theorem ggX10_stepsOn_X10_isOf : GoodIn wsX10_stepsOn wsX10_isOf := goodIn_r _ [13] (by decide +kernel) (by decide +kernel)
set_option maxRecDepth 20000 in
theorem gX10_stepsOn_X10_isOf : GoodIn wsX10_stepsOn (va_wsS RX10 117 yX10_isOf wsX10_isOf) := goodIn_app (goodIn_of _ (by decide +kernel)) ggX10_stepsOn_X10_isOf
theorem dX10_stepsOn_0 : decode cX10_stepsOn 0 = .ok (.iconst 0, 1) := by decide +kernel
theorem dX10_stepsOn_1 : decode cX10_stepsOn 1 = .ok (.istore_n 2, 1) := by decide +kernel
theorem dX10_stepsOn_2 : decode cX10_stepsOn 2 = .ok (.iload_n 2, 1) := by decide +kernel
theorem dX10_stepsOn_3 : decode cX10_stepsOn 3 = .ok (.bipush 19, 2) := by decide +kernel
theorem dX10_stepsOn_5 : decode cX10_stepsOn 5 = .ok (.if_icmp .ge 63, 3) := by decide +kernel
theorem dX10_stepsOn_8 : decode cX10_stepsOn 8 = .ok (.aload_n 0, 1) := by decide +kernel
theorem dX10_stepsOn_9 : decode cX10_stepsOn 9 = .ok (.getfield 53, 3) := by decide +kernel
theorem dX10_stepsOn_12 : decode cX10_stepsOn 12 = .ok (.iload_n 2, 1) := by decide +kernel
theorem dX10_stepsOn_13 : decode cX10_stepsOn 13 = .ok (.iload_n 2, 1) := by decide +kernel
theorem dX10_stepsOn_14 : decode cX10_stepsOn 14 = .ok (.bipush 9, 2) := by decide +kernel
theorem dX10_stepsOn_16 : decode cX10_stepsOn 16 = .ok (.iload_n 1, 1) := by decide +kernel
theorem dX10_stepsOn_17 : decode cX10_stepsOn 17 = .ok (.iadd, 1) := by decide +kernel
theorem dX10_stepsOn_18 : decode cX10_stepsOn 18 = .ok (.if_icmp .lt 33, 3) := by decide +kernel
theorem dX10_stepsOn_21 : decode cX10_stepsOn 21 = .ok (.iload_n 2, 1) := by decide +kernel
theorem dX10_stepsOn_22 : decode cX10_stepsOn 22 = .ok (.bipush 9, 2) := by decide +kernel
theorem dX10_stepsOn_24 : decode cX10_stepsOn 24 = .ok (.aload_n 0, 1) := by decide +kernel
theorem dX10_stepsOn_25 : decode cX10_stepsOn 25 = .ok (.getfield 7, 3) := by decide +kernel
theorem dX10_stepsOn_28 : decode cX10_stepsOn 28 = .ok (.iconst 4, 1) := by decide +kernel
theorem dX10_stepsOn_29 : decode cX10_stepsOn 29 = .ok (.iaload, 1) := by decide +kernel
theorem dX10_stepsOn_30 : decode cX10_stepsOn 30 = .ok (.iadd, 1) := by decide +kernel
theorem dX10_stepsOn_31 : decode cX10_stepsOn 31 = .ok (.if_icmp .ge 20, 3) := by decide +kernel
theorem dX10_stepsOn_34 : decode cX10_stepsOn 34 = .ok (.aload_n 0, 1) := by decide +kernel
theorem dX10_stepsOn_35 : decode cX10_stepsOn 35 = .ok (.getfield 44, 3) := by decide +kernel
theorem dX10_stepsOn_38 : decode cX10_stepsOn 38 = .ok (.iload_n 2, 1) := by decide +kernel
theorem dX10_stepsOn_39 : decode cX10_stepsOn 39 = .ok (.bipush 9, 2) := by decide +kernel
theorem dX10_stepsOn_41 : decode cX10_stepsOn 41 = .ok (.isub, 1) := by decide +kernel
theorem dX10_stepsOn_42 : decode cX10_stepsOn 42 = .ok (.iaload, 1) := by decide +kernel
theorem dX10_stepsOn_43 : decode cX10_stepsOn 43 = .ok (.iconst (-1), 1) := by decide +kernel
theorem dX10_stepsOn_44 : decode cX10_stepsOn 44 = .ok (.if_icmp .ne 7, 3) := by decide +kernel
theorem dX10_stepsOn_47 : decode cX10_stepsOn 47 = .ok (.iconst 0, 1) := by decide +kernel
theorem dX10_stepsOn_48 : decode cX10_stepsOn 48 = .ok (.goto 6, 3) := by decide +kernel
theorem dX10_stepsOn_51 : decode cX10_stepsOn 51 = .ok (.ldc_w 330, 3) := by decide +kernel
theorem dX10_stepsOn_54 : decode cX10_stepsOn 54 = .ok (.iastore, 1) := by decide +kernel
theorem dX10_stepsOn_55 : decode cX10_stepsOn 55 = .ok (.aload_n 0, 1) := by decide +kernel
theorem dX10_stepsOn_56 : decode cX10_stepsOn 56 = .ok (.getfield 56, 3) := by decide +kernel
theorem dX10_stepsOn_59 : decode cX10_stepsOn 59 = .ok (.iload_n 2, 1) := by decide +kernel
theorem dX10_stepsOn_60 : decode cX10_stepsOn 60 = .ok (.iconst (-1), 1) := by decide +kernel
theorem dX10_stepsOn_61 : decode cX10_stepsOn 61 = .ok (.iastore, 1) := by decide +kernel
theorem dX10_stepsOn_62 : decode cX10_stepsOn 62 = .ok (.iinc 2 1, 3) := by decide +kernel
theorem dX10_stepsOn_65 : decode cX10_stepsOn 65 = .ok (.goto (-63), 3) := by decide +kernel
theorem dX10_stepsOn_68 : decode cX10_stepsOn 68 = .ok (.iconst 0, 1) := by decide +kernel
theorem dX10_stepsOn_69 : decode cX10_stepsOn 69 = .ok (.istore_n 2, 1) := by decide +kernel
theorem dX10_stepsOn_70 : decode cX10_stepsOn 70 = .ok (.iload_n 2, 1) := by decide +kernel
theorem dX10_stepsOn_71 : decode cX10_stepsOn 71 = .ok (.bipush 19, 2) := by decide +kernel
theorem dX10_stepsOn_73 : decode cX10_stepsOn 73 = .ok (.if_icmp .ge 229, 3) := by decide +kernel
theorem dX10_stepsOn_76 : decode cX10_stepsOn 76 = .ok (.iload_n 1, 1) := by decide +kernel
theorem dX10_stepsOn_77 : decode cX10_stepsOn 77 = .ok (.istore_n 3, 1) := by decide +kernel
theorem dX10_stepsOn_78 : decode cX10_stepsOn 78 = .ok (.iload_n 3, 1) := by decide +kernel
theorem dX10_stepsOn_79 : decode cX10_stepsOn 79 = .ok (.aload_n 0, 1) := by decide +kernel
theorem dX10_stepsOn_80 : decode cX10_stepsOn 80 = .ok (.getfield 7, 3) := by decide +kernel
theorem dX10_stepsOn_83 : decode cX10_stepsOn 83 = .ok (.iconst 4, 1) := by decide +kernel
theorem dX10_stepsOn_84 : decode cX10_stepsOn 84 = .ok (.iaload, 1) := by decide +kernel
theorem dX10_stepsOn_85 : decode cX10_stepsOn 85 = .ok (.if_icmp .ge 211, 3) := by decide +kernel
theorem dX10_stepsOn_88 : decode cX10_stepsOn 88 = .ok (.iconst 0, 1) := by decide +kernel
theorem dX10_stepsOn_89 : decode cX10_stepsOn 89 = .ok (.istore 4, 2) := by decide +kernel
theorem dX10_stepsOn_91 : decode cX10_stepsOn 91 = .ok (.iload 4, 2) := by decide +kernel
theorem dX10_stepsOn_93 : decode cX10_stepsOn 93 = .ok (.aload_n 0, 1) := by decide +kernel
theorem dX10_stepsOn_94 : decode cX10_stepsOn 94 = .ok (.getfield 7, 3) := by decide +kernel
theorem dX10_stepsOn_97 : decode cX10_stepsOn 97 = .ok (.iconst 3, 1) := by decide +kernel
theorem dX10_stepsOn_98 : decode cX10_stepsOn 98 = .ok (.iaload, 1) := by decide +kernel
theorem dX10_stepsOn_99 : decode cX10_stepsOn 99 = .ok (.if_icmp .ge 191, 3) := by decide +kernel
theorem dX10_stepsOn_102 : decode cX10_stepsOn 102 = .ok (.aload_n 0, 1) := by decide +kernel
theorem dX10_stepsOn_103 : decode cX10_stepsOn 103 = .ok (.getfield 47, 3) := by decide +kernel
theorem dX10_stepsOn_106 : decode cX10_stepsOn 106 = .ok (.iload_n 3, 1) := by decide +kernel
theorem dX10_stepsOn_107 : decode cX10_stepsOn 107 = .ok (.iaload, 1) := by decide +kernel
theorem dX10_stepsOn_108 : decode cX10_stepsOn 108 = .ok (.iload 4, 2) := by decide +kernel
theorem dX10_stepsOn_110 : decode cX10_stepsOn 110 = .ok (.invokestatic 117, 3) := by decide +kernel
theorem dX10_stepsOn_113 : decode cX10_stepsOn 113 = .ok (.ifCond .ne 6, 3) := by decide +kernel
theorem dX10_stepsOn_116 : decode cX10_stepsOn 116 = .ok (.goto 168, 3) := by decide +kernel
theorem dX10_stepsOn_119 : decode cX10_stepsOn 119 = .ok (.aload_n 0, 1) := by decide +kernel
theorem dX10_stepsOn_120 : decode cX10_stepsOn 120 = .ok (.getfield 32, 3) := by decide +kernel
theorem dX10_stepsOn_123 : decode cX10_stepsOn 123 = .ok (.bipush 10, 2) := by decide +kernel
theorem dX10_stepsOn_125 : decode cX10_stepsOn 125 = .ok (.iload 4, 2) := by decide +kernel
theorem dX10_stepsOn_127 : decode cX10_stepsOn 127 = .ok (.imul, 1) := by decide +kernel
theorem dX10_stepsOn_128 : decode cX10_stepsOn 128 = .ok (.iload_n 3, 1) := by decide +kernel
theorem dX10_stepsOn_129 : decode cX10_stepsOn 129 = .ok (.iadd, 1) := by decide +kernel
theorem dX10_stepsOn_130 : decode cX10_stepsOn 130 = .ok (.iaload, 1) := by decide +kernel
theorem dX10_stepsOn_131 : decode cX10_stepsOn 131 = .ok (.istore 5, 2) := by decide +kernel
theorem dX10_stepsOn_133 : decode cX10_stepsOn 133 = .ok (.aload_n 0, 1) := by decide +kernel
theorem dX10_stepsOn_134 : decode cX10_stepsOn 134 = .ok (.getfield 44, 3) := by decide +kernel
theorem dX10_stepsOn_137 : decode cX10_stepsOn 137 = .ok (.iload_n 3, 1) := by decide +kernel
theorem dX10_stepsOn_138 : decode cX10_stepsOn 138 = .ok (.iaload, 1) := by decide +kernel
theorem dX10_stepsOn_139 : decode cX10_stepsOn 139 = .ok (.iload 4, 2) := by decide +kernel
theorem dX10_stepsOn_141 : decode cX10_stepsOn 141 = .ok (.if_icmp .eq 67, 3) := by decide +kernel
theorem dX10_stepsOn_144 : decode cX10_stepsOn 144 = .ok (.aload_n 0, 1) := by decide +kernel
theorem dX10_stepsOn_145 : decode cX10_stepsOn 145 = .ok (.getfield 53, 3) := by decide +kernel
theorem dX10_stepsOn_148 : decode cX10_stepsOn 148 = .ok (.bipush 9, 2) := by decide +kernel
theorem dX10_stepsOn_150 : decode cX10_stepsOn 150 = .ok (.iload_n 3, 1) := by decide +kernel
theorem dX10_stepsOn_151 : decode cX10_stepsOn 151 = .ok (.iadd, 1) := by decide +kernel
theorem dX10_stepsOn_152 : decode cX10_stepsOn 152 = .ok (.iaload, 1) := by decide +kernel
theorem dX10_stepsOn_153 : decode cX10_stepsOn 153 = .ok (.ldc_w 330, 3) := by decide +kernel
theorem dX10_stepsOn_156 : decode cX10_stepsOn 156 = .ok (.if_icmp .le 52, 3) := by decide +kernel
theorem dX10_stepsOn_159 : decode cX10_stepsOn 159 = .ok (.aload_n 0, 1) := by decide +kernel
theorem dX10_stepsOn_160 : decode cX10_stepsOn 160 = .ok (.getfield 53, 3) := by decide +kernel
theorem dX10_stepsOn_163 : decode cX10_stepsOn 163 = .ok (.bipush 9, 2) := by decide +kernel
theorem dX10_stepsOn_165 : decode cX10_stepsOn 165 = .ok (.iload_n 3, 1) := by decide +kernel
theorem dX10_stepsOn_166 : decode cX10_stepsOn 166 = .ok (.iadd, 1) := by decide +kernel
theorem dX10_stepsOn_167 : decode cX10_stepsOn 167 = .ok (.iaload, 1) := by decide +kernel
theorem dX10_stepsOn_168 : decode cX10_stepsOn 168 = .ok (.iload 5, 2) := by decide +kernel
theorem dX10_stepsOn_170 : decode cX10_stepsOn 170 = .ok (.iadd, 1) := by decide +kernel
theorem dX10_stepsOn_171 : decode cX10_stepsOn 171 = .ok (.aload_n 0, 1) := by decide +kernel
theorem dX10_stepsOn_172 : decode cX10_stepsOn 172 = .ok (.getfield 53, 3) := by decide +kernel
theorem dX10_stepsOn_175 : decode cX10_stepsOn 175 = .ok (.iload 4, 2) := by decide +kernel
theorem dX10_stepsOn_177 : decode cX10_stepsOn 177 = .ok (.iaload, 1) := by decide +kernel
theorem dX10_stepsOn_178 : decode cX10_stepsOn 178 = .ok (.if_icmp .le 30, 3) := by decide +kernel
theorem dX10_stepsOn_181 : decode cX10_stepsOn 181 = .ok (.aload_n 0, 1) := by decide +kernel
theorem dX10_stepsOn_182 : decode cX10_stepsOn 182 = .ok (.getfield 53, 3) := by decide +kernel
theorem dX10_stepsOn_185 : decode cX10_stepsOn 185 = .ok (.iload 4, 2) := by decide +kernel
theorem dX10_stepsOn_187 : decode cX10_stepsOn 187 = .ok (.aload_n 0, 1) := by decide +kernel
theorem dX10_stepsOn_188 : decode cX10_stepsOn 188 = .ok (.getfield 53, 3) := by decide +kernel
theorem dX10_stepsOn_191 : decode cX10_stepsOn 191 = .ok (.bipush 9, 2) := by decide +kernel
theorem dX10_stepsOn_193 : decode cX10_stepsOn 193 = .ok (.iload_n 3, 1) := by decide +kernel
theorem dX10_stepsOn_194 : decode cX10_stepsOn 194 = .ok (.iadd, 1) := by decide +kernel
theorem dX10_stepsOn_195 : decode cX10_stepsOn 195 = .ok (.iaload, 1) := by decide +kernel
theorem dX10_stepsOn_196 : decode cX10_stepsOn 196 = .ok (.iload 5, 2) := by decide +kernel
theorem dX10_stepsOn_198 : decode cX10_stepsOn 198 = .ok (.iadd, 1) := by decide +kernel
theorem dX10_stepsOn_199 : decode cX10_stepsOn 199 = .ok (.iastore, 1) := by decide +kernel
theorem dX10_stepsOn_200 : decode cX10_stepsOn 200 = .ok (.aload_n 0, 1) := by decide +kernel
theorem dX10_stepsOn_201 : decode cX10_stepsOn 201 = .ok (.getfield 56, 3) := by decide +kernel
theorem dX10_stepsOn_204 : decode cX10_stepsOn 204 = .ok (.iload 4, 2) := by decide +kernel
theorem dX10_stepsOn_206 : decode cX10_stepsOn 206 = .ok (.iload_n 3, 1) := by decide +kernel
theorem dX10_stepsOn_207 : decode cX10_stepsOn 207 = .ok (.iastore, 1) := by decide +kernel
theorem dX10_stepsOn_208 : decode cX10_stepsOn 208 = .ok (.aload_n 0, 1) := by decide +kernel
theorem dX10_stepsOn_209 : decode cX10_stepsOn 209 = .ok (.getfield 44, 3) := by decide +kernel
theorem dX10_stepsOn_212 : decode cX10_stepsOn 212 = .ok (.iload_n 3, 1) := by decide +kernel
theorem dX10_stepsOn_213 : decode cX10_stepsOn 213 = .ok (.iaload, 1) := by decide +kernel
theorem dX10_stepsOn_214 : decode cX10_stepsOn 214 = .ok (.iload 4, 2) := by decide +kernel
theorem dX10_stepsOn_216 : decode cX10_stepsOn 216 = .ok (.if_icmp .ne 68, 3) := by decide +kernel
theorem dX10_stepsOn_219 : decode cX10_stepsOn 219 = .ok (.aload_n 0, 1) := by decide +kernel
theorem dX10_stepsOn_220 : decode cX10_stepsOn 220 = .ok (.getfield 53, 3) := by decide +kernel
theorem dX10_stepsOn_223 : decode cX10_stepsOn 223 = .ok (.iload 4, 2) := by decide +kernel
theorem dX10_stepsOn_225 : decode cX10_stepsOn 225 = .ok (.iaload, 1) := by decide +kernel
theorem dX10_stepsOn_226 : decode cX10_stepsOn 226 = .ok (.ldc_w 330, 3) := by decide +kernel
theorem dX10_stepsOn_229 : decode cX10_stepsOn 229 = .ok (.if_icmp .le 55, 3) := by decide +kernel
theorem dX10_stepsOn_232 : decode cX10_stepsOn 232 = .ok (.aload_n 0, 1) := by decide +kernel
theorem dX10_stepsOn_233 : decode cX10_stepsOn 233 = .ok (.getfield 53, 3) := by decide +kernel
theorem dX10_stepsOn_236 : decode cX10_stepsOn 236 = .ok (.iload 4, 2) := by decide +kernel
theorem dX10_stepsOn_238 : decode cX10_stepsOn 238 = .ok (.iaload, 1) := by decide +kernel
theorem dX10_stepsOn_239 : decode cX10_stepsOn 239 = .ok (.iload 5, 2) := by decide +kernel
theorem dX10_stepsOn_241 : decode cX10_stepsOn 241 = .ok (.isub, 1) := by decide +kernel
theorem dX10_stepsOn_242 : decode cX10_stepsOn 242 = .ok (.aload_n 0, 1) := by decide +kernel
theorem dX10_stepsOn_243 : decode cX10_stepsOn 243 = .ok (.getfield 53, 3) := by decide +kernel
theorem dX10_stepsOn_246 : decode cX10_stepsOn 246 = .ok (.bipush 9, 2) := by decide +kernel
theorem dX10_stepsOn_248 : decode cX10_stepsOn 248 = .ok (.iload_n 3, 1) := by decide +kernel
theorem dX10_stepsOn_249 : decode cX10_stepsOn 249 = .ok (.iadd, 1) := by decide +kernel
theorem dX10_stepsOn_250 : decode cX10_stepsOn 250 = .ok (.iaload, 1) := by decide +kernel
theorem dX10_stepsOn_251 : decode cX10_stepsOn 251 = .ok (.if_icmp .le 33, 3) := by decide +kernel
theorem dX10_stepsOn_254 : decode cX10_stepsOn 254 = .ok (.aload_n 0, 1) := by decide +kernel
theorem dX10_stepsOn_255 : decode cX10_stepsOn 255 = .ok (.getfield 53, 3) := by decide +kernel
theorem dX10_stepsOn_258 : decode cX10_stepsOn 258 = .ok (.bipush 9, 2) := by decide +kernel
theorem dX10_stepsOn_260 : decode cX10_stepsOn 260 = .ok (.iload_n 3, 1) := by decide +kernel
theorem dX10_stepsOn_261 : decode cX10_stepsOn 261 = .ok (.iadd, 1) := by decide +kernel
theorem dX10_stepsOn_262 : decode cX10_stepsOn 262 = .ok (.aload_n 0, 1) := by decide +kernel
theorem dX10_stepsOn_263 : decode cX10_stepsOn 263 = .ok (.getfield 53, 3) := by decide +kernel
theorem dX10_stepsOn_266 : decode cX10_stepsOn 266 = .ok (.iload 4, 2) := by decide +kernel
theorem dX10_stepsOn_268 : decode cX10_stepsOn 268 = .ok (.iaload, 1) := by decide +kernel
theorem dX10_stepsOn_269 : decode cX10_stepsOn 269 = .ok (.iload 5, 2) := by decide +kernel
theorem dX10_stepsOn_271 : decode cX10_stepsOn 271 = .ok (.isub, 1) := by decide +kernel
theorem dX10_stepsOn_272 : decode cX10_stepsOn 272 = .ok (.iastore, 1) := by decide +kernel
theorem dX10_stepsOn_273 : decode cX10_stepsOn 273 = .ok (.aload_n 0, 1) := by decide +kernel
theorem dX10_stepsOn_274 : decode cX10_stepsOn 274 = .ok (.getfield 56, 3) := by decide +kernel
theorem dX10_stepsOn_277 : decode cX10_stepsOn 277 = .ok (.bipush 9, 2) := by decide +kernel
theorem dX10_stepsOn_279 : decode cX10_stepsOn 279 = .ok (.iload_n 3, 1) := by decide +kernel
theorem dX10_stepsOn_280 : decode cX10_stepsOn 280 = .ok (.iadd, 1) := by decide +kernel
theorem dX10_stepsOn_281 : decode cX10_stepsOn 281 = .ok (.iload 4, 2) := by decide +kernel
theorem dX10_stepsOn_283 : decode cX10_stepsOn 283 = .ok (.iastore, 1) := by decide +kernel
theorem dX10_stepsOn_284 : decode cX10_stepsOn 284 = .ok (.iinc 4 1, 3) := by decide +kernel
theorem dX10_stepsOn_287 : decode cX10_stepsOn 287 = .ok (.goto (-196), 3) := by decide +kernel
theorem dX10_stepsOn_290 : decode cX10_stepsOn 290 = .ok (.iinc 3 1, 3) := by decide +kernel
theorem dX10_stepsOn_293 : decode cX10_stepsOn 293 = .ok (.goto (-215), 3) := by decide +kernel
theorem dX10_stepsOn_296 : decode cX10_stepsOn 296 = .ok (.iinc 2 1, 3) := by decide +kernel
theorem dX10_stepsOn_299 : decode cX10_stepsOn 299 = .ok (.goto (-229), 3) := by decide +kernel
theorem dX10_stepsOn_302 : decode cX10_stepsOn 302 = .ok (.iconst (-1), 1) := by decide +kernel
theorem dX10_stepsOn_303 : decode cX10_stepsOn 303 = .ok (.istore_n 2, 1) := by decide +kernel
theorem dX10_stepsOn_304 : decode cX10_stepsOn 304 = .ok (.iconst 0, 1) := by decide +kernel
theorem dX10_stepsOn_305 : decode cX10_stepsOn 305 = .ok (.istore_n 3, 1) := by decide +kernel
theorem dX10_stepsOn_306 : decode cX10_stepsOn 306 = .ok (.iload_n 3, 1) := by decide +kernel
theorem dX10_stepsOn_307 : decode cX10_stepsOn 307 = .ok (.aload_n 0, 1) := by decide +kernel
theorem dX10_stepsOn_308 : decode cX10_stepsOn 308 = .ok (.getfield 7, 3) := by decide +kernel
theorem dX10_stepsOn_311 : decode cX10_stepsOn 311 = .ok (.iconst 3, 1) := by decide +kernel
theorem dX10_stepsOn_312 : decode cX10_stepsOn 312 = .ok (.iaload, 1) := by decide +kernel
theorem dX10_stepsOn_313 : decode cX10_stepsOn 313 = .ok (.if_icmp .ge 55, 3) := by decide +kernel
theorem dX10_stepsOn_316 : decode cX10_stepsOn 316 = .ok (.aload_n 0, 1) := by decide +kernel
theorem dX10_stepsOn_317 : decode cX10_stepsOn 317 = .ok (.getfield 53, 3) := by decide +kernel
theorem dX10_stepsOn_320 : decode cX10_stepsOn 320 = .ok (.iload_n 3, 1) := by decide +kernel
theorem dX10_stepsOn_321 : decode cX10_stepsOn 321 = .ok (.iaload, 1) := by decide +kernel
theorem dX10_stepsOn_322 : decode cX10_stepsOn 322 = .ok (.ifCond .le 40, 3) := by decide +kernel
theorem dX10_stepsOn_325 : decode cX10_stepsOn 325 = .ok (.aload_n 0, 1) := by decide +kernel
theorem dX10_stepsOn_326 : decode cX10_stepsOn 326 = .ok (.getfield 41, 3) := by decide +kernel
theorem dX10_stepsOn_329 : decode cX10_stepsOn 329 = .ok (.iload_n 3, 1) := by decide +kernel
theorem dX10_stepsOn_330 : decode cX10_stepsOn 330 = .ok (.iaload, 1) := by decide +kernel
theorem dX10_stepsOn_331 : decode cX10_stepsOn 331 = .ok (.aload_n 0, 1) := by decide +kernel
theorem dX10_stepsOn_332 : decode cX10_stepsOn 332 = .ok (.getfield 50, 3) := by decide +kernel
theorem dX10_stepsOn_335 : decode cX10_stepsOn 335 = .ok (.iload_n 3, 1) := by decide +kernel
theorem dX10_stepsOn_336 : decode cX10_stepsOn 336 = .ok (.iaload, 1) := by decide +kernel
theorem dX10_stepsOn_337 : decode cX10_stepsOn 337 = .ok (.if_icmp .ge 25, 3) := by decide +kernel
theorem dX10_stepsOn_340 : decode cX10_stepsOn 340 = .ok (.iload_n 2, 1) := by decide +kernel
theorem dX10_stepsOn_341 : decode cX10_stepsOn 341 = .ok (.iconst (-1), 1) := by decide +kernel
theorem dX10_stepsOn_342 : decode cX10_stepsOn 342 = .ok (.if_icmp .eq 18, 3) := by decide +kernel
theorem dX10_stepsOn_345 : decode cX10_stepsOn 345 = .ok (.aload_n 0, 1) := by decide +kernel
theorem dX10_stepsOn_346 : decode cX10_stepsOn 346 = .ok (.getfield 53, 3) := by decide +kernel
theorem dX10_stepsOn_349 : decode cX10_stepsOn 349 = .ok (.iload_n 3, 1) := by decide +kernel
theorem dX10_stepsOn_350 : decode cX10_stepsOn 350 = .ok (.iaload, 1) := by decide +kernel
theorem dX10_stepsOn_351 : decode cX10_stepsOn 351 = .ok (.aload_n 0, 1) := by decide +kernel
theorem dX10_stepsOn_352 : decode cX10_stepsOn 352 = .ok (.getfield 53, 3) := by decide +kernel
theorem dX10_stepsOn_355 : decode cX10_stepsOn 355 = .ok (.iload_n 2, 1) := by decide +kernel
theorem dX10_stepsOn_356 : decode cX10_stepsOn 356 = .ok (.iaload, 1) := by decide +kernel
theorem dX10_stepsOn_357 : decode cX10_stepsOn 357 = .ok (.if_icmp .le 5, 3) := by decide +kernel
theorem dX10_stepsOn_360 : decode cX10_stepsOn 360 = .ok (.iload_n 3, 1) := by decide +kernel
theorem dX10_stepsOn_361 : decode cX10_stepsOn 361 = .ok (.istore_n 2, 1) := by decide +kernel
theorem dX10_stepsOn_362 : decode cX10_stepsOn 362 = .ok (.iinc 3 1, 3) := by decide +kernel
theorem dX10_stepsOn_365 : decode cX10_stepsOn 365 = .ok (.goto (-59), 3) := by decide +kernel
theorem dX10_stepsOn_368 : decode cX10_stepsOn 368 = .ok (.iload_n 2, 1) := by decide +kernel
theorem dX10_stepsOn_369 : decode cX10_stepsOn 369 = .ok (.iconst (-1), 1) := by decide +kernel
theorem dX10_stepsOn_370 : decode cX10_stepsOn 370 = .ok (.if_icmp .ne 5, 3) := by decide +kernel
theorem dX10_stepsOn_373 : decode cX10_stepsOn 373 = .ok (.iconst 0, 1) := by decide +kernel
theorem dX10_stepsOn_374 : decode cX10_stepsOn 374 = .ok (.ireturn, 1) := by decide +kernel
theorem dX10_stepsOn_375 : decode cX10_stepsOn 375 = .ok (.aload_n 0, 1) := by decide +kernel
theorem dX10_stepsOn_376 : decode cX10_stepsOn 376 = .ok (.getfield 53, 3) := by decide +kernel
theorem dX10_stepsOn_379 : decode cX10_stepsOn 379 = .ok (.iload_n 2, 1) := by decide +kernel
theorem dX10_stepsOn_380 : decode cX10_stepsOn 380 = .ok (.iaload, 1) := by decide +kernel
theorem dX10_stepsOn_381 : decode cX10_stepsOn 381 = .ok (.istore_n 3, 1) := by decide +kernel
theorem dX10_stepsOn_382 : decode cX10_stepsOn 382 = .ok (.aload_n 0, 1) := by decide +kernel
theorem dX10_stepsOn_383 : decode cX10_stepsOn 383 = .ok (.getfield 41, 3) := by decide +kernel
theorem dX10_stepsOn_386 : decode cX10_stepsOn 386 = .ok (.iload_n 2, 1) := by decide +kernel
theorem dX10_stepsOn_387 : decode cX10_stepsOn 387 = .ok (.dup2, 1) := by decide +kernel
theorem dX10_stepsOn_388 : decode cX10_stepsOn 388 = .ok (.iaload, 1) := by decide +kernel
theorem dX10_stepsOn_389 : decode cX10_stepsOn 389 = .ok (.iconst 1, 1) := by decide +kernel
theorem dX10_stepsOn_390 : decode cX10_stepsOn 390 = .ok (.iadd, 1) := by decide +kernel
theorem dX10_stepsOn_391 : decode cX10_stepsOn 391 = .ok (.iastore, 1) := by decide +kernel
theorem dX10_stepsOn_392 : decode cX10_stepsOn 392 = .ok (.iload_n 2, 1) := by decide +kernel
theorem dX10_stepsOn_393 : decode cX10_stepsOn 393 = .ok (.istore 4, 2) := by decide +kernel
theorem dX10_stepsOn_395 : decode cX10_stepsOn 395 = .ok (.iload 4, 2) := by decide +kernel
theorem dX10_stepsOn_397 : decode cX10_stepsOn 397 = .ok (.iconst (-1), 1) := by decide +kernel
theorem dX10_stepsOn_398 : decode cX10_stepsOn 398 = .ok (.if_icmp .eq 37, 3) := by decide +kernel
theorem dX10_stepsOn_401 : decode cX10_stepsOn 401 = .ok (.aload_n 0, 1) := by decide +kernel
theorem dX10_stepsOn_402 : decode cX10_stepsOn 402 = .ok (.getfield 56, 3) := by decide +kernel
theorem dX10_stepsOn_405 : decode cX10_stepsOn 405 = .ok (.iload 4, 2) := by decide +kernel
theorem dX10_stepsOn_407 : decode cX10_stepsOn 407 = .ok (.iaload, 1) := by decide +kernel
theorem dX10_stepsOn_408 : decode cX10_stepsOn 408 = .ok (.istore 5, 2) := by decide +kernel
theorem dX10_stepsOn_410 : decode cX10_stepsOn 410 = .ok (.aload_n 0, 1) := by decide +kernel
theorem dX10_stepsOn_411 : decode cX10_stepsOn 411 = .ok (.getfield 44, 3) := by decide +kernel
theorem dX10_stepsOn_414 : decode cX10_stepsOn 414 = .ok (.iload 5, 2) := by decide +kernel
theorem dX10_stepsOn_416 : decode cX10_stepsOn 416 = .ok (.iaload, 1) := by decide +kernel
theorem dX10_stepsOn_417 : decode cX10_stepsOn 417 = .ok (.istore 6, 2) := by decide +kernel
theorem dX10_stepsOn_419 : decode cX10_stepsOn 419 = .ok (.aload_n 0, 1) := by decide +kernel
theorem dX10_stepsOn_420 : decode cX10_stepsOn 420 = .ok (.getfield 44, 3) := by decide +kernel
theorem dX10_stepsOn_423 : decode cX10_stepsOn 423 = .ok (.iload 5, 2) := by decide +kernel
theorem dX10_stepsOn_425 : decode cX10_stepsOn 425 = .ok (.iload 4, 2) := by decide +kernel
theorem dX10_stepsOn_427 : decode cX10_stepsOn 427 = .ok (.iastore, 1) := by decide +kernel
theorem dX10_stepsOn_428 : decode cX10_stepsOn 428 = .ok (.iload 6, 2) := by decide +kernel
theorem dX10_stepsOn_430 : decode cX10_stepsOn 430 = .ok (.istore 4, 2) := by decide +kernel
theorem dX10_stepsOn_432 : decode cX10_stepsOn 432 = .ok (.goto (-37), 3) := by decide +kernel
theorem dX10_stepsOn_435 : decode cX10_stepsOn 435 = .ok (.iload_n 3, 1) := by decide +kernel
theorem dX10_stepsOn_436 : decode cX10_stepsOn 436 = .ok (.ireturn, 1) := by decide +kernel
set_option maxRecDepth 20000 in
theorem ggX10_dearest_X10_isVisitor : GoodIn wsX10_dearest wsX10_isVisitor := goodIn_r _ [9, 2, 10, 11, 8, 12, 212, 213, 214, 215, 216, 217, 218, 219, 220, 221, 222, 223, 224, 225, 226, 227, 228, 229, 230, 231, 232, 233, 234, 235, 236, 237, 238, 239] (by decide +kernel) (by decide +kernel)
set_option maxRecDepth 20000 in
theorem gX10_dearest_X10_isVisitor : GoodIn wsX10_dearest (wsV RX10 300 RX10 yX10_isVisitor wsX10_isVisitor) := goodIn_app (goodIn_of _ (by decide +kernel)) ggX10_dearest_X10_isVisitor
set_option maxRecDepth 20000 in
theorem ggX10_dearest_X10_looks : GoodIn wsX10_dearest wsX10_looks := goodIn_r _ [16, 2, 17, 18, 19, 20, 8, 21, 4, 22, 23, 24, 25, 26, 27, 28, 29, 30, 31, 32, 33, 34, 35, 36, 37, 38, 39, 40, 41, 42, 43, 44, 45, 46, 47, 48, 49, 50, 51, 52, 53, 54, 55, 56, 57, 58, 59, 60, 61, 62, 63, 64, 65, 66, 67, 10, 11, 12, 68, 69, 70, 71, 72, 73, 74, 75, 76, 77, 78, 79, 80, 81, 82, 83, 84, 85, 86, 87, 88, 89, 90, 91, 92, 93, 94, 95, 96, 97, 98, 99, 100, 101, 102, 103, 104, 105, 106, 107, 108, 109, 110, 111, 112, 113, 114, 115, 116, 117, 118, 119, 120, 121, 122, 123, 124, 125, 126, 127, 128, 129, 130, 131, 132, 133, 134, 135, 136, 137, 138, 139, 140, 141, 142, 143, 144, 145, 146, 147, 148, 149, 150, 151, 152, 153, 154, 155, 156, 157, 158, 159, 160, 161, 162, 163, 164, 165, 166, 167, 168, 169, 170, 171, 172, 173, 174, 175, 176, 177, 178, 179, 180, 181, 182, 183, 184, 185, 186, 187, 188, 189, 190, 191, 192, 193, 194, 212, 213, 214, 215, 216, 217, 218, 219, 220, 221, 222, 223, 224, 225, 226, 227, 228, 229, 230, 231, 232, 233, 234, 235, 236, 237, 238, 239] (by decide +kernel) (by decide +kernel)
set_option maxRecDepth 20000 in
theorem gX10_dearest_X10_looks : GoodIn wsX10_dearest (wsV RX10 318 RX10 yX10_looks wsX10_looks) := goodIn_app (goodIn_of _ (by decide +kernel)) ggX10_dearest_X10_looks
set_option maxRecDepth 20000 in
theorem ggX10_dearest_X10_of : GoodIn wsX10_dearest wsX10_of := goodIn_r _ [42, 2, 212, 213, 214, 215, 216, 217, 218, 219, 220, 221, 222, 223, 224, 225, 226, 227, 228, 229, 230, 231, 232, 233, 234, 235, 236, 237, 238, 239] (by decide +kernel) (by decide +kernel)
set_option maxRecDepth 20000 in
theorem gX10_dearest_X10_of : GoodIn wsX10_dearest (wsV RX10 70 RX10 yX10_of wsX10_of) := goodIn_app (goodIn_of _ (by decide +kernel)) ggX10_dearest_X10_of
set_option maxRecDepth 20000 in
theorem ggX10_dearest_X10_dearestFrom : GoodIn wsX10_dearest wsX10_dearestFrom := goodIn_r _ [198, 199, 200, 201, 202, 203, 8, 204, 205, 2, 206, 207, 17, 4, 3, 141, 142, 143, 212, 213, 214, 215, 216, 217, 218, 219, 220, 221, 222, 223, 224, 225, 226, 227, 228, 229, 230, 231, 232, 233, 234, 235, 236, 237, 238, 239] (by decide +kernel) (by decide +kernel)
set_option maxRecDepth 20000 in
theorem gX10_dearest_X10_dearestFrom : GoodIn wsX10_dearest (wsV RX10 331 RX10 yX10_dearestFrom wsX10_dearestFrom) := goodIn_app (goodIn_of _ (by decide +kernel)) ggX10_dearest_X10_dearestFrom
set_option maxRecDepth 20000 in
theorem ggX10_dearest_X10_firstFor : GoodIn wsX10_dearest wsX10_firstFor := goodIn_r _ [211, 2, 17, 3, 4, 141, 142, 8, 143, 195, 196, 197, 198, 199, 200, 201, 202, 203, 204, 205, 206, 207, 212, 213, 214, 215, 216, 217, 218, 219, 220, 221, 222, 223, 224, 225, 226, 227, 228, 229, 230, 231, 232, 233, 234, 235, 236, 237, 238, 239] (by decide +kernel) (by decide +kernel)
set_option maxRecDepth 20000 in
theorem gX10_dearest_X10_firstFor : GoodIn wsX10_dearest (wsV RX10 334 RX10 yX10_firstFor wsX10_firstFor) := goodIn_app (goodIn_of _ (by decide +kernel)) ggX10_dearest_X10_firstFor
theorem dX10_dearest_0 : decode cX10_dearest 0 = .ok (.aload_n 0, 1) := by decide +kernel
theorem dX10_dearest_1 : decode cX10_dearest 1 = .ok (.iload_n 1, 1) := by decide +kernel
theorem dX10_dearest_2 : decode cX10_dearest 2 = .ok (.iconst (-1), 1) := by decide +kernel
theorem dX10_dearest_3 : decode cX10_dearest 3 = .ok (.if_icmp .eq 15, 3) := by decide +kernel
theorem dX10_dearest_6 : decode cX10_dearest 6 = .ok (.aload_n 0, 1) := by decide +kernel
theorem dX10_dearest_7 : decode cX10_dearest 7 = .ok (.iload_n 1, 1) := by decide +kernel
theorem dX10_dearest_8 : decode cX10_dearest 8 = .ok (.invokevirtual 300, 3) := by decide +kernel
theorem dX10_dearest_11 : decode cX10_dearest 11 = .ok (.ifCond .ne 7, 3) := by decide +kernel
theorem dX10_dearest_14 : decode cX10_dearest 14 = .ok (.iconst 1, 1) := by decide +kernel
theorem dX10_dearest_15 : decode cX10_dearest 15 = .ok (.goto 4, 3) := by decide +kernel
theorem dX10_dearest_18 : decode cX10_dearest 18 = .ok (.iconst 0, 1) := by decide +kernel
theorem dX10_dearest_19 : decode cX10_dearest 19 = .ok (.putfield 63, 3) := by decide +kernel
theorem dX10_dearest_22 : decode cX10_dearest 22 = .ok (.aload_n 0, 1) := by decide +kernel
theorem dX10_dearest_23 : decode cX10_dearest 23 = .ok (.getfield 63, 3) := by decide +kernel
theorem dX10_dearest_26 : decode cX10_dearest 26 = .ok (.ifCond .le 5, 3) := by decide +kernel
theorem dX10_dearest_29 : decode cX10_dearest 29 = .ok (.iconst 0, 1) := by decide +kernel
theorem dX10_dearest_30 : decode cX10_dearest 30 = .ok (.ireturn, 1) := by decide +kernel
theorem dX10_dearest_31 : decode cX10_dearest 31 = .ok (.aload_n 0, 1) := by decide +kernel
theorem dX10_dearest_32 : decode cX10_dearest 32 = .ok (.invokevirtual 318, 3) := by decide +kernel
theorem dX10_dearest_35 : decode cX10_dearest 35 = .ok (.iconst 0, 1) := by decide +kernel
theorem dX10_dearest_36 : decode cX10_dearest 36 = .ok (.istore_n 2, 1) := by decide +kernel
theorem dX10_dearest_37 : decode cX10_dearest 37 = .ok (.iload_n 2, 1) := by decide +kernel
theorem dX10_dearest_38 : decode cX10_dearest 38 = .ok (.aload_n 0, 1) := by decide +kernel
theorem dX10_dearest_39 : decode cX10_dearest 39 = .ok (.getfield 7, 3) := by decide +kernel
theorem dX10_dearest_42 : decode cX10_dearest 42 = .ok (.iconst 3, 1) := by decide +kernel
theorem dX10_dearest_43 : decode cX10_dearest 43 = .ok (.iaload, 1) := by decide +kernel
theorem dX10_dearest_44 : decode cX10_dearest 44 = .ok (.if_icmp .ge 21, 3) := by decide +kernel
theorem dX10_dearest_47 : decode cX10_dearest 47 = .ok (.aload_n 0, 1) := by decide +kernel
theorem dX10_dearest_48 : decode cX10_dearest 48 = .ok (.getfield 50, 3) := by decide +kernel
theorem dX10_dearest_51 : decode cX10_dearest 51 = .ok (.iload_n 2, 1) := by decide +kernel
theorem dX10_dearest_52 : decode cX10_dearest 52 = .ok (.aload_n 0, 1) := by decide +kernel
theorem dX10_dearest_53 : decode cX10_dearest 53 = .ok (.iload_n 2, 1) := by decide +kernel
theorem dX10_dearest_54 : decode cX10_dearest 54 = .ok (.iconst 2, 1) := by decide +kernel
theorem dX10_dearest_55 : decode cX10_dearest 55 = .ok (.invokevirtual 70, 3) := by decide +kernel
theorem dX10_dearest_58 : decode cX10_dearest 58 = .ok (.iastore, 1) := by decide +kernel
theorem dX10_dearest_59 : decode cX10_dearest 59 = .ok (.iinc 2 1, 3) := by decide +kernel
theorem dX10_dearest_62 : decode cX10_dearest 62 = .ok (.goto (-25), 3) := by decide +kernel
theorem dX10_dearest_65 : decode cX10_dearest 65 = .ok (.aload_n 0, 1) := by decide +kernel
theorem dX10_dearest_66 : decode cX10_dearest 66 = .ok (.iconst 0, 1) := by decide +kernel
theorem dX10_dearest_67 : decode cX10_dearest 67 = .ok (.invokevirtual 331, 3) := by decide +kernel
theorem dX10_dearest_70 : decode cX10_dearest 70 = .ok (.istore_n 2, 1) := by decide +kernel
theorem dX10_dearest_71 : decode cX10_dearest 71 = .ok (.iload_n 1, 1) := by decide +kernel
theorem dX10_dearest_72 : decode cX10_dearest 72 = .ok (.iconst (-1), 1) := by decide +kernel
theorem dX10_dearest_73 : decode cX10_dearest 73 = .ok (.if_icmp .ne 5, 3) := by decide +kernel
theorem dX10_dearest_76 : decode cX10_dearest 76 = .ok (.iload_n 2, 1) := by decide +kernel
theorem dX10_dearest_77 : decode cX10_dearest 77 = .ok (.ireturn, 1) := by decide +kernel
theorem dX10_dearest_78 : decode cX10_dearest 78 = .ok (.iconst 0, 1) := by decide +kernel
theorem dX10_dearest_79 : decode cX10_dearest 79 = .ok (.istore_n 3, 1) := by decide +kernel
theorem dX10_dearest_80 : decode cX10_dearest 80 = .ok (.iload_n 3, 1) := by decide +kernel
theorem dX10_dearest_81 : decode cX10_dearest 81 = .ok (.iload_n 1, 1) := by decide +kernel
theorem dX10_dearest_82 : decode cX10_dearest 82 = .ok (.if_icmp .gt 74, 3) := by decide +kernel
theorem dX10_dearest_85 : decode cX10_dearest 85 = .ok (.iconst (-1), 1) := by decide +kernel
theorem dX10_dearest_86 : decode cX10_dearest 86 = .ok (.istore 4, 2) := by decide +kernel
theorem dX10_dearest_88 : decode cX10_dearest 88 = .ok (.aload_n 0, 1) := by decide +kernel
theorem dX10_dearest_89 : decode cX10_dearest 89 = .ok (.iload_n 3, 1) := by decide +kernel
theorem dX10_dearest_90 : decode cX10_dearest 90 = .ok (.iconst 1, 1) := by decide +kernel
theorem dX10_dearest_91 : decode cX10_dearest 91 = .ok (.iadd, 1) := by decide +kernel
theorem dX10_dearest_92 : decode cX10_dearest 92 = .ok (.invokevirtual 331, 3) := by decide +kernel
theorem dX10_dearest_95 : decode cX10_dearest 95 = .ok (.iload_n 2, 1) := by decide +kernel
theorem dX10_dearest_96 : decode cX10_dearest 96 = .ok (.if_icmp .eq 11, 3) := by decide +kernel
theorem dX10_dearest_99 : decode cX10_dearest 99 = .ok (.aload_n 0, 1) := by decide +kernel
theorem dX10_dearest_100 : decode cX10_dearest 100 = .ok (.iload_n 3, 1) := by decide +kernel
theorem dX10_dearest_101 : decode cX10_dearest 101 = .ok (.iload_n 2, 1) := by decide +kernel
theorem dX10_dearest_102 : decode cX10_dearest 102 = .ok (.invokevirtual 334, 3) := by decide +kernel
theorem dX10_dearest_105 : decode cX10_dearest 105 = .ok (.istore 4, 2) := by decide +kernel
theorem dX10_dearest_107 : decode cX10_dearest 107 = .ok (.iload_n 3, 1) := by decide +kernel
theorem dX10_dearest_108 : decode cX10_dearest 108 = .ok (.iload_n 1, 1) := by decide +kernel
theorem dX10_dearest_109 : decode cX10_dearest 109 = .ok (.if_icmp .ne 6, 3) := by decide +kernel
theorem dX10_dearest_112 : decode cX10_dearest 112 = .ok (.iload 4, 2) := by decide +kernel
theorem dX10_dearest_114 : decode cX10_dearest 114 = .ok (.ireturn, 1) := by decide +kernel
theorem dX10_dearest_115 : decode cX10_dearest 115 = .ok (.iload 4, 2) := by decide +kernel
theorem dX10_dearest_117 : decode cX10_dearest 117 = .ok (.iconst (-1), 1) := by decide +kernel
theorem dX10_dearest_118 : decode cX10_dearest 118 = .ok (.if_icmp .ne 6, 3) := by decide +kernel
theorem dX10_dearest_121 : decode cX10_dearest 121 = .ok (.goto 29, 3) := by decide +kernel
theorem dX10_dearest_124 : decode cX10_dearest 124 = .ok (.iload_n 2, 1) := by decide +kernel
theorem dX10_dearest_125 : decode cX10_dearest 125 = .ok (.aload_n 0, 1) := by decide +kernel
theorem dX10_dearest_126 : decode cX10_dearest 126 = .ok (.getfield 32, 3) := by decide +kernel
theorem dX10_dearest_129 : decode cX10_dearest 129 = .ok (.bipush 10, 2) := by decide +kernel
theorem dX10_dearest_131 : decode cX10_dearest 131 = .ok (.iload 4, 2) := by decide +kernel
theorem dX10_dearest_133 : decode cX10_dearest 133 = .ok (.imul, 1) := by decide +kernel
theorem dX10_dearest_134 : decode cX10_dearest 134 = .ok (.iload_n 3, 1) := by decide +kernel
theorem dX10_dearest_135 : decode cX10_dearest 135 = .ok (.iadd, 1) := by decide +kernel
theorem dX10_dearest_136 : decode cX10_dearest 136 = .ok (.iaload, 1) := by decide +kernel
theorem dX10_dearest_137 : decode cX10_dearest 137 = .ok (.isub, 1) := by decide +kernel
theorem dX10_dearest_138 : decode cX10_dearest 138 = .ok (.istore_n 2, 1) := by decide +kernel
theorem dX10_dearest_139 : decode cX10_dearest 139 = .ok (.aload_n 0, 1) := by decide +kernel
theorem dX10_dearest_140 : decode cX10_dearest 140 = .ok (.getfield 50, 3) := by decide +kernel
theorem dX10_dearest_143 : decode cX10_dearest 143 = .ok (.iload 4, 2) := by decide +kernel
theorem dX10_dearest_145 : decode cX10_dearest 145 = .ok (.dup2, 1) := by decide +kernel
theorem dX10_dearest_146 : decode cX10_dearest 146 = .ok (.iaload, 1) := by decide +kernel
theorem dX10_dearest_147 : decode cX10_dearest 147 = .ok (.iconst 1, 1) := by decide +kernel
theorem dX10_dearest_148 : decode cX10_dearest 148 = .ok (.isub, 1) := by decide +kernel
theorem dX10_dearest_149 : decode cX10_dearest 149 = .ok (.iastore, 1) := by decide +kernel
theorem dX10_dearest_150 : decode cX10_dearest 150 = .ok (.iinc 3 1, 3) := by decide +kernel
theorem dX10_dearest_153 : decode cX10_dearest 153 = .ok (.goto (-73), 3) := by decide +kernel
theorem dX10_dearest_156 : decode cX10_dearest 156 = .ok (.iconst (-1), 1) := by decide +kernel
theorem dX10_dearest_157 : decode cX10_dearest 157 = .ok (.ireturn, 1) := by decide +kernel
set_option maxRecDepth 20000 in
theorem ggX10_firstFor_X10_isOf : GoodIn wsX10_firstFor wsX10_isOf := goodIn_r _ [8] (by decide +kernel) (by decide +kernel)
set_option maxRecDepth 20000 in
theorem gX10_firstFor_X10_isOf : GoodIn wsX10_firstFor (va_wsS RX10 117 yX10_isOf wsX10_isOf) := goodIn_app (goodIn_of _ (by decide +kernel)) ggX10_firstFor_X10_isOf
set_option maxRecDepth 20000 in
theorem ggX10_firstFor_X10_dearestFrom : GoodIn wsX10_firstFor wsX10_dearestFrom := goodIn_r _ [12, 13, 14, 15, 16, 17, 7, 18, 19, 1, 20, 21, 2, 4, 3, 5, 6, 8, 22, 23, 24, 25, 26, 27, 28, 29, 30, 31, 32, 33, 34, 35, 36, 37, 38, 39, 40, 41, 42, 43, 44, 45, 46, 47, 48, 49] (by decide +kernel) (by decide +kernel)
set_option maxRecDepth 20000 in
theorem gX10_firstFor_X10_dearestFrom : GoodIn wsX10_firstFor (wsV RX10 331 RX10 yX10_dearestFrom wsX10_dearestFrom) := goodIn_app (goodIn_of _ (by decide +kernel)) ggX10_firstFor_X10_dearestFrom
theorem dX10_firstFor_0 : decode cX10_firstFor 0 = .ok (.iconst 0, 1) := by decide +kernel
theorem dX10_firstFor_1 : decode cX10_firstFor 1 = .ok (.istore_n 3, 1) := by decide +kernel
theorem dX10_firstFor_2 : decode cX10_firstFor 2 = .ok (.iload_n 3, 1) := by decide +kernel
theorem dX10_firstFor_3 : decode cX10_firstFor 3 = .ok (.aload_n 0, 1) := by decide +kernel
theorem dX10_firstFor_4 : decode cX10_firstFor 4 = .ok (.getfield 7, 3) := by decide +kernel
theorem dX10_firstFor_7 : decode cX10_firstFor 7 = .ok (.iconst 3, 1) := by decide +kernel
theorem dX10_firstFor_8 : decode cX10_firstFor 8 = .ok (.iaload, 1) := by decide +kernel
theorem dX10_firstFor_9 : decode cX10_firstFor 9 = .ok (.if_icmp .ge 91, 3) := by decide +kernel
theorem dX10_firstFor_12 : decode cX10_firstFor 12 = .ok (.aload_n 0, 1) := by decide +kernel
theorem dX10_firstFor_13 : decode cX10_firstFor 13 = .ok (.getfield 47, 3) := by decide +kernel
theorem dX10_firstFor_16 : decode cX10_firstFor 16 = .ok (.iload_n 1, 1) := by decide +kernel
theorem dX10_firstFor_17 : decode cX10_firstFor 17 = .ok (.iaload, 1) := by decide +kernel
theorem dX10_firstFor_18 : decode cX10_firstFor 18 = .ok (.iload_n 3, 1) := by decide +kernel
theorem dX10_firstFor_19 : decode cX10_firstFor 19 = .ok (.invokestatic 117, 3) := by decide +kernel
theorem dX10_firstFor_22 : decode cX10_firstFor 22 = .ok (.ifCond .eq 72, 3) := by decide +kernel
theorem dX10_firstFor_25 : decode cX10_firstFor 25 = .ok (.aload_n 0, 1) := by decide +kernel
theorem dX10_firstFor_26 : decode cX10_firstFor 26 = .ok (.getfield 50, 3) := by decide +kernel
theorem dX10_firstFor_29 : decode cX10_firstFor 29 = .ok (.iload_n 3, 1) := by decide +kernel
theorem dX10_firstFor_30 : decode cX10_firstFor 30 = .ok (.iaload, 1) := by decide +kernel
theorem dX10_firstFor_31 : decode cX10_firstFor 31 = .ok (.ifCond .ne 6, 3) := by decide +kernel
theorem dX10_firstFor_34 : decode cX10_firstFor 34 = .ok (.goto 60, 3) := by decide +kernel
theorem dX10_firstFor_37 : decode cX10_firstFor 37 = .ok (.aload_n 0, 1) := by decide +kernel
theorem dX10_firstFor_38 : decode cX10_firstFor 38 = .ok (.getfield 50, 3) := by decide +kernel
theorem dX10_firstFor_41 : decode cX10_firstFor 41 = .ok (.iload_n 3, 1) := by decide +kernel
theorem dX10_firstFor_42 : decode cX10_firstFor 42 = .ok (.dup2, 1) := by decide +kernel
theorem dX10_firstFor_43 : decode cX10_firstFor 43 = .ok (.iaload, 1) := by decide +kernel
theorem dX10_firstFor_44 : decode cX10_firstFor 44 = .ok (.iconst 1, 1) := by decide +kernel
theorem dX10_firstFor_45 : decode cX10_firstFor 45 = .ok (.isub, 1) := by decide +kernel
theorem dX10_firstFor_46 : decode cX10_firstFor 46 = .ok (.iastore, 1) := by decide +kernel
theorem dX10_firstFor_47 : decode cX10_firstFor 47 = .ok (.aload_n 0, 1) := by decide +kernel
theorem dX10_firstFor_48 : decode cX10_firstFor 48 = .ok (.iload_n 1, 1) := by decide +kernel
theorem dX10_firstFor_49 : decode cX10_firstFor 49 = .ok (.iconst 1, 1) := by decide +kernel
theorem dX10_firstFor_50 : decode cX10_firstFor 50 = .ok (.iadd, 1) := by decide +kernel
theorem dX10_firstFor_51 : decode cX10_firstFor 51 = .ok (.invokevirtual 331, 3) := by decide +kernel
theorem dX10_firstFor_54 : decode cX10_firstFor 54 = .ok (.aload_n 0, 1) := by decide +kernel
theorem dX10_firstFor_55 : decode cX10_firstFor 55 = .ok (.getfield 32, 3) := by decide +kernel
theorem dX10_firstFor_58 : decode cX10_firstFor 58 = .ok (.bipush 10, 2) := by decide +kernel
theorem dX10_firstFor_60 : decode cX10_firstFor 60 = .ok (.iload_n 3, 1) := by decide +kernel
theorem dX10_firstFor_61 : decode cX10_firstFor 61 = .ok (.imul, 1) := by decide +kernel
theorem dX10_firstFor_62 : decode cX10_firstFor 62 = .ok (.iload_n 1, 1) := by decide +kernel
theorem dX10_firstFor_63 : decode cX10_firstFor 63 = .ok (.iadd, 1) := by decide +kernel
theorem dX10_firstFor_64 : decode cX10_firstFor 64 = .ok (.iaload, 1) := by decide +kernel
theorem dX10_firstFor_65 : decode cX10_firstFor 65 = .ok (.iadd, 1) := by decide +kernel
theorem dX10_firstFor_66 : decode cX10_firstFor 66 = .ok (.iload_n 2, 1) := by decide +kernel
theorem dX10_firstFor_67 : decode cX10_firstFor 67 = .ok (.if_icmp .ne 7, 3) := by decide +kernel
theorem dX10_firstFor_70 : decode cX10_firstFor 70 = .ok (.iconst 1, 1) := by decide +kernel
theorem dX10_firstFor_71 : decode cX10_firstFor 71 = .ok (.goto 4, 3) := by decide +kernel
theorem dX10_firstFor_74 : decode cX10_firstFor 74 = .ok (.iconst 0, 1) := by decide +kernel
theorem dX10_firstFor_75 : decode cX10_firstFor 75 = .ok (.istore 4, 2) := by decide +kernel
theorem dX10_firstFor_77 : decode cX10_firstFor 77 = .ok (.aload_n 0, 1) := by decide +kernel
theorem dX10_firstFor_78 : decode cX10_firstFor 78 = .ok (.getfield 50, 3) := by decide +kernel
theorem dX10_firstFor_81 : decode cX10_firstFor 81 = .ok (.iload_n 3, 1) := by decide +kernel
theorem dX10_firstFor_82 : decode cX10_firstFor 82 = .ok (.dup2, 1) := by decide +kernel
theorem dX10_firstFor_83 : decode cX10_firstFor 83 = .ok (.iaload, 1) := by decide +kernel
theorem dX10_firstFor_84 : decode cX10_firstFor 84 = .ok (.iconst 1, 1) := by decide +kernel
theorem dX10_firstFor_85 : decode cX10_firstFor 85 = .ok (.iadd, 1) := by decide +kernel
theorem dX10_firstFor_86 : decode cX10_firstFor 86 = .ok (.iastore, 1) := by decide +kernel
theorem dX10_firstFor_87 : decode cX10_firstFor 87 = .ok (.iload 4, 2) := by decide +kernel
theorem dX10_firstFor_89 : decode cX10_firstFor 89 = .ok (.ifCond .eq 5, 3) := by decide +kernel
theorem dX10_firstFor_92 : decode cX10_firstFor 92 = .ok (.iload_n 3, 1) := by decide +kernel
theorem dX10_firstFor_93 : decode cX10_firstFor 93 = .ok (.ireturn, 1) := by decide +kernel
theorem dX10_firstFor_94 : decode cX10_firstFor 94 = .ok (.iinc 3 1, 3) := by decide +kernel
theorem dX10_firstFor_97 : decode cX10_firstFor 97 = .ok (.goto (-95), 3) := by decide +kernel
theorem dX10_firstFor_100 : decode cX10_firstFor 100 = .ok (.iconst (-1), 1) := by decide +kernel
theorem dX10_firstFor_101 : decode cX10_firstFor 101 = .ok (.ireturn, 1) := by decide +kernel
set_option maxRecDepth 20000 in
theorem ggX10_swap_X10_of : GoodIn wsX10_swap wsX10_of := goodIn_r _ [6, 1, 7, 8, 9, 10, 11, 12, 13, 14, 15, 16, 17, 18, 19, 20, 21, 22, 23, 24, 25, 26, 27, 28, 29, 30, 31, 32, 33, 34] (by decide +kernel) (by decide +kernel)
set_option maxRecDepth 20000 in
theorem gX10_swap_X10_of : GoodIn wsX10_swap (wsV RX10 70 RX10 yX10_of wsX10_of) := goodIn_app (goodIn_of _ (by decide +kernel)) ggX10_swap_X10_of
theorem dX10_swap_0 : decode cX10_swap 0 = .ok (.aload_n 0, 1) := by decide +kernel
theorem dX10_swap_1 : decode cX10_swap 1 = .ok (.iload_n 1, 1) := by decide +kernel
theorem dX10_swap_2 : decode cX10_swap 2 = .ok (.iconst 0, 1) := by decide +kernel
theorem dX10_swap_3 : decode cX10_swap 3 = .ok (.invokevirtual 70, 3) := by decide +kernel
theorem dX10_swap_6 : decode cX10_swap 6 = .ok (.istore_n 3, 1) := by decide +kernel
theorem dX10_swap_7 : decode cX10_swap 7 = .ok (.aload_n 0, 1) := by decide +kernel
theorem dX10_swap_8 : decode cX10_swap 8 = .ok (.getfield 7, 3) := by decide +kernel
theorem dX10_swap_11 : decode cX10_swap 11 = .ok (.bipush 12, 2) := by decide +kernel
theorem dX10_swap_13 : decode cX10_swap 13 = .ok (.iconst 5, 1) := by decide +kernel
theorem dX10_swap_14 : decode cX10_swap 14 = .ok (.iload_n 1, 1) := by decide +kernel
theorem dX10_swap_15 : decode cX10_swap 15 = .ok (.imul, 1) := by decide +kernel
theorem dX10_swap_16 : decode cX10_swap 16 = .ok (.iadd, 1) := by decide +kernel
theorem dX10_swap_17 : decode cX10_swap 17 = .ok (.iconst 0, 1) := by decide +kernel
theorem dX10_swap_18 : decode cX10_swap 18 = .ok (.iadd, 1) := by decide +kernel
theorem dX10_swap_19 : decode cX10_swap 19 = .ok (.aload_n 0, 1) := by decide +kernel
theorem dX10_swap_20 : decode cX10_swap 20 = .ok (.iload_n 2, 1) := by decide +kernel
theorem dX10_swap_21 : decode cX10_swap 21 = .ok (.iconst 0, 1) := by decide +kernel
theorem dX10_swap_22 : decode cX10_swap 22 = .ok (.invokevirtual 70, 3) := by decide +kernel
theorem dX10_swap_25 : decode cX10_swap 25 = .ok (.iastore, 1) := by decide +kernel
theorem dX10_swap_26 : decode cX10_swap 26 = .ok (.aload_n 0, 1) := by decide +kernel
theorem dX10_swap_27 : decode cX10_swap 27 = .ok (.getfield 7, 3) := by decide +kernel
theorem dX10_swap_30 : decode cX10_swap 30 = .ok (.bipush 12, 2) := by decide +kernel
theorem dX10_swap_32 : decode cX10_swap 32 = .ok (.iconst 5, 1) := by decide +kernel
theorem dX10_swap_33 : decode cX10_swap 33 = .ok (.iload_n 2, 1) := by decide +kernel
theorem dX10_swap_34 : decode cX10_swap 34 = .ok (.imul, 1) := by decide +kernel
theorem dX10_swap_35 : decode cX10_swap 35 = .ok (.iadd, 1) := by decide +kernel
theorem dX10_swap_36 : decode cX10_swap 36 = .ok (.iconst 0, 1) := by decide +kernel
theorem dX10_swap_37 : decode cX10_swap 37 = .ok (.iadd, 1) := by decide +kernel
theorem dX10_swap_38 : decode cX10_swap 38 = .ok (.iload_n 3, 1) := by decide +kernel
theorem dX10_swap_39 : decode cX10_swap 39 = .ok (.iastore, 1) := by decide +kernel
theorem dX10_swap_40 : decode cX10_swap 40 = .ok (.return_, 1) := by decide +kernel
set_option maxRecDepth 20000 in
theorem ggX10_change_X10_tomorrow : GoodIn wsX10_change wsX10_tomorrow := goodIn_r _ [7, 8, 9, 10, 6, 11, 2, 12, 13, 14, 15, 16, 17, 18, 19, 20, 21, 22, 23, 24, 25, 26, 27, 28, 29, 30, 31, 32, 33, 34, 35, 36, 37, 38, 39, 40, 41, 42, 43, 44, 45, 46, 47, 48, 49, 50, 51, 52, 53, 54, 55, 56, 57, 58, 59, 60, 61, 62, 63, 64, 65, 66, 67, 68, 69, 70, 71, 72, 73, 74, 75, 76, 77, 78, 79, 80, 81, 82, 83, 84, 85, 86, 87, 88, 89, 90, 91, 92, 93, 94, 95, 96, 97, 98, 99, 100, 101, 102, 103, 104, 105, 106, 107, 108, 109, 110, 111, 112, 113, 114, 115, 116, 117, 118, 119, 120, 121, 122, 123, 124, 125, 126, 127, 128, 129, 130, 131, 132, 133, 134, 135, 136, 137, 138, 139, 140, 141, 142, 143, 144, 145, 146, 147, 148, 149, 150, 151, 152, 153, 154, 155, 156, 157, 158, 159, 160, 161, 162, 163, 164, 165, 166, 167, 168, 169, 170, 171, 172, 173, 174, 175, 176, 177, 178, 179, 180, 181, 182, 183, 184, 185, 186, 187, 188, 189, 190, 191, 192, 193, 194, 195, 196, 197, 198, 199, 200, 201, 202, 203, 204, 216, 217, 218, 219, 220, 221, 222, 223, 224, 225, 226, 227, 228, 229, 230, 231, 232, 233, 234, 235, 236, 237, 238, 239, 240, 241, 242, 243] (by decide +kernel) (by decide +kernel)
set_option maxRecDepth 20000 in
theorem gX10_change_X10_tomorrow : GoodIn wsX10_change (wsV RX10 288 RX10 yX10_tomorrow wsX10_tomorrow) := goodIn_app (goodIn_of _ (by decide +kernel)) ggX10_change_X10_tomorrow
set_option maxRecDepth 20000 in
theorem ggX10_change_X10_hadNow : GoodIn wsX10_change wsX10_hadNow := goodIn_r _ [208, 2, 181, 216, 217, 218, 219, 220, 221, 222, 223, 224, 225, 226, 227, 228, 229, 230, 231, 232, 233, 234, 235, 236, 237, 238, 239, 240, 241, 242, 243] (by decide +kernel) (by decide +kernel)
set_option maxRecDepth 20000 in
theorem gX10_change_X10_hadNow : GoodIn wsX10_change (wsV RX10 312 RX10 yX10_hadNow wsX10_hadNow) := goodIn_app (goodIn_of _ (by decide +kernel)) ggX10_change_X10_hadNow
set_option maxRecDepth 20000 in
theorem ggX10_change_X10_bits : GoodIn wsX10_change wsX10_bits := goodIn_r _ [211] (by decide +kernel) (by decide +kernel)
set_option maxRecDepth 20000 in
theorem gX10_change_X10_bits : GoodIn wsX10_change (va_wsS RX10 321 yX10_bits wsX10_bits) := goodIn_app (goodIn_of _ (by decide +kernel)) ggX10_change_X10_bits
set_option maxRecDepth 20000 in
theorem ggX10_change_X10_swap : GoodIn wsX10_change wsX10_swap := goodIn_r _ [215, 2, 30, 31, 32, 6, 33, 216, 217, 218, 219, 220, 221, 222, 223, 224, 225, 226, 227, 228, 229, 230, 231, 232, 233, 234, 235, 236, 237, 238, 239, 240, 241, 242, 243] (by decide +kernel) (by decide +kernel)
set_option maxRecDepth 20000 in
theorem gX10_change_X10_swap : GoodIn wsX10_change (wsV RX10 337 RX10 yX10_swap wsX10_swap) := goodIn_app (goodIn_of _ (by decide +kernel)) ggX10_change_X10_swap
theorem dX10_change_0 : decode cX10_change 0 = .ok (.aload_n 0, 1) := by decide +kernel
theorem dX10_change_1 : decode cX10_change 1 = .ok (.iconst 0, 1) := by decide +kernel
theorem dX10_change_2 : decode cX10_change 2 = .ok (.putfield 63, 3) := by decide +kernel
theorem dX10_change_5 : decode cX10_change 5 = .ok (.aload_n 0, 1) := by decide +kernel
theorem dX10_change_6 : decode cX10_change 6 = .ok (.invokevirtual 288, 3) := by decide +kernel
theorem dX10_change_9 : decode cX10_change 9 = .ok (.aload_n 0, 1) := by decide +kernel
theorem dX10_change_10 : decode cX10_change 10 = .ok (.invokevirtual 312, 3) := by decide +kernel
theorem dX10_change_13 : decode cX10_change 13 = .ok (.invokestatic 321, 3) := by decide +kernel
theorem dX10_change_16 : decode cX10_change 16 = .ok (.istore_n 2, 1) := by decide +kernel
theorem dX10_change_17 : decode cX10_change 17 = .ok (.iconst (-1), 1) := by decide +kernel
theorem dX10_change_18 : decode cX10_change 18 = .ok (.istore_n 3, 1) := by decide +kernel
theorem dX10_change_19 : decode cX10_change 19 = .ok (.iconst 0, 1) := by decide +kernel
theorem dX10_change_20 : decode cX10_change 20 = .ok (.istore 4, 2) := by decide +kernel
theorem dX10_change_22 : decode cX10_change 22 = .ok (.iload 4, 2) := by decide +kernel
theorem dX10_change_24 : decode cX10_change 24 = .ok (.aload_n 0, 1) := by decide +kernel
theorem dX10_change_25 : decode cX10_change 25 = .ok (.getfield 7, 3) := by decide +kernel
theorem dX10_change_28 : decode cX10_change 28 = .ok (.iconst 3, 1) := by decide +kernel
theorem dX10_change_29 : decode cX10_change 29 = .ok (.iaload, 1) := by decide +kernel
theorem dX10_change_30 : decode cX10_change 30 = .ok (.if_icmp .ge 82, 3) := by decide +kernel
theorem dX10_change_33 : decode cX10_change 33 = .ok (.iload 4, 2) := by decide +kernel
theorem dX10_change_35 : decode cX10_change 35 = .ok (.iconst 1, 1) := by decide +kernel
theorem dX10_change_36 : decode cX10_change 36 = .ok (.iadd, 1) := by decide +kernel
theorem dX10_change_37 : decode cX10_change 37 = .ok (.istore 5, 2) := by decide +kernel
theorem dX10_change_39 : decode cX10_change 39 = .ok (.iload 5, 2) := by decide +kernel
theorem dX10_change_41 : decode cX10_change 41 = .ok (.aload_n 0, 1) := by decide +kernel
theorem dX10_change_42 : decode cX10_change 42 = .ok (.getfield 7, 3) := by decide +kernel
theorem dX10_change_45 : decode cX10_change 45 = .ok (.iconst 3, 1) := by decide +kernel
theorem dX10_change_46 : decode cX10_change 46 = .ok (.iaload, 1) := by decide +kernel
theorem dX10_change_47 : decode cX10_change 47 = .ok (.if_icmp .ge 59, 3) := by decide +kernel
theorem dX10_change_50 : decode cX10_change 50 = .ok (.aload_n 0, 1) := by decide +kernel
theorem dX10_change_51 : decode cX10_change 51 = .ok (.iload 4, 2) := by decide +kernel
theorem dX10_change_53 : decode cX10_change 53 = .ok (.iload 5, 2) := by decide +kernel
theorem dX10_change_55 : decode cX10_change 55 = .ok (.invokevirtual 337, 3) := by decide +kernel
theorem dX10_change_58 : decode cX10_change 58 = .ok (.aload_n 0, 1) := by decide +kernel
theorem dX10_change_59 : decode cX10_change 59 = .ok (.invokevirtual 288, 3) := by decide +kernel
theorem dX10_change_62 : decode cX10_change 62 = .ok (.aload_n 0, 1) := by decide +kernel
theorem dX10_change_63 : decode cX10_change 63 = .ok (.iload 4, 2) := by decide +kernel
theorem dX10_change_65 : decode cX10_change 65 = .ok (.iload 5, 2) := by decide +kernel
theorem dX10_change_67 : decode cX10_change 67 = .ok (.invokevirtual 337, 3) := by decide +kernel
theorem dX10_change_70 : decode cX10_change 70 = .ok (.aload_n 0, 1) := by decide +kernel
theorem dX10_change_71 : decode cX10_change 71 = .ok (.invokevirtual 312, 3) := by decide +kernel
theorem dX10_change_74 : decode cX10_change 74 = .ok (.invokestatic 321, 3) := by decide +kernel
theorem dX10_change_77 : decode cX10_change 77 = .ok (.istore 6, 2) := by decide +kernel
theorem dX10_change_79 : decode cX10_change 79 = .ok (.iload 6, 2) := by decide +kernel
theorem dX10_change_81 : decode cX10_change 81 = .ok (.iload_n 2, 1) := by decide +kernel
theorem dX10_change_82 : decode cX10_change 82 = .ok (.if_icmp .gt 6, 3) := by decide +kernel
theorem dX10_change_85 : decode cX10_change 85 = .ok (.goto 15, 3) := by decide +kernel
theorem dX10_change_88 : decode cX10_change 88 = .ok (.iload 6, 2) := by decide +kernel
theorem dX10_change_90 : decode cX10_change 90 = .ok (.istore_n 2, 1) := by decide +kernel
theorem dX10_change_91 : decode cX10_change 91 = .ok (.bipush 10, 2) := by decide +kernel
theorem dX10_change_93 : decode cX10_change 93 = .ok (.iload 4, 2) := by decide +kernel
theorem dX10_change_95 : decode cX10_change 95 = .ok (.imul, 1) := by decide +kernel
theorem dX10_change_96 : decode cX10_change 96 = .ok (.iload 5, 2) := by decide +kernel
theorem dX10_change_98 : decode cX10_change 98 = .ok (.iadd, 1) := by decide +kernel
theorem dX10_change_99 : decode cX10_change 99 = .ok (.istore_n 3, 1) := by decide +kernel
theorem dX10_change_100 : decode cX10_change 100 = .ok (.iinc 5 1, 3) := by decide +kernel
theorem dX10_change_103 : decode cX10_change 103 = .ok (.goto (-64), 3) := by decide +kernel
theorem dX10_change_106 : decode cX10_change 106 = .ok (.iinc 4 1, 3) := by decide +kernel
theorem dX10_change_109 : decode cX10_change 109 = .ok (.goto (-87), 3) := by decide +kernel
theorem dX10_change_112 : decode cX10_change 112 = .ok (.iload_n 1, 1) := by decide +kernel
theorem dX10_change_113 : decode cX10_change 113 = .ok (.ifCond .eq 7, 3) := by decide +kernel
theorem dX10_change_116 : decode cX10_change 116 = .ok (.iload_n 2, 1) := by decide +kernel
theorem dX10_change_117 : decode cX10_change 117 = .ok (.goto 4, 3) := by decide +kernel
theorem dX10_change_120 : decode cX10_change 120 = .ok (.iload_n 3, 1) := by decide +kernel
theorem dX10_change_121 : decode cX10_change 121 = .ok (.ireturn, 1) := by decide +kernel
set_option maxRecDepth 20000 in
theorem ggX10_right_X10_isThing : GoodIn wsX10_right wsX10_isThing := goodIn_r _ [9, 2, 10, 11, 8, 12, 205, 206, 207, 208, 209, 210, 211, 212, 213, 214, 215, 216, 217, 218, 219, 220, 221, 222, 223, 224, 225, 226, 227, 228, 229, 230, 231, 232] (by decide +kernel) (by decide +kernel)
set_option maxRecDepth 20000 in
theorem gX10_right_X10_isThing : GoodIn wsX10_right (wsV RX10 285 RX10 yX10_isThing wsX10_isThing) := goodIn_app (goodIn_of _ (by decide +kernel)) ggX10_right_X10_isThing
set_option maxRecDepth 20000 in
theorem ggX10_right_X10_of : GoodIn wsX10_right wsX10_of := goodIn_r _ [16, 2, 205, 206, 207, 208, 209, 210, 211, 212, 213, 214, 215, 216, 217, 218, 219, 220, 221, 222, 223, 224, 225, 226, 227, 228, 229, 230, 231, 232] (by decide +kernel) (by decide +kernel)
set_option maxRecDepth 20000 in
theorem gX10_right_X10_of : GoodIn wsX10_right (wsV RX10 70 RX10 yX10_of wsX10_of) := goodIn_app (goodIn_of _ (by decide +kernel)) ggX10_right_X10_of
set_option maxRecDepth 20000 in
theorem ggX10_right_X10_asks : GoodIn wsX10_right wsX10_asks := goodIn_r _ [20, 2, 4, 21, 22, 23, 8, 24, 25, 26, 27, 28, 29, 30, 31, 32, 33, 34, 35, 36, 37, 13, 14, 15, 16, 38, 39, 40, 41, 42, 43, 44, 45, 46, 47, 48, 49, 50, 51, 52, 53, 54, 55, 56, 57, 58, 59, 60, 61, 62, 10, 11, 12, 63, 64, 65, 66, 67, 68, 69, 70, 71, 72, 73, 74, 75, 76, 77, 78, 79, 80, 81, 82, 83, 84, 85, 86, 87, 88, 89, 90, 91, 92, 93, 94, 95, 96, 97, 98, 99, 100, 101, 102, 103, 104, 105, 106, 107, 108, 109, 110, 111, 112, 113, 114, 115, 116, 117, 118, 119, 120, 121, 122, 123, 124, 125, 126, 127, 128, 129, 130, 131, 132, 133, 134, 135, 136, 137, 138, 139, 140, 141, 142, 143, 144, 145, 146, 147, 148, 149, 150, 151, 152, 153, 154, 155, 156, 157, 158, 159, 160, 161, 162, 163, 164, 165, 166, 167, 168, 169, 170, 171, 172, 173, 174, 175, 176, 177, 205, 206, 207, 208, 209, 210, 211, 212, 213, 214, 215, 216, 217, 218, 219, 220, 221, 222, 223, 224, 225, 226, 227, 228, 229, 230, 231, 232] (by decide +kernel) (by decide +kernel)
set_option maxRecDepth 20000 in
theorem gX10_right_X10_asks : GoodIn wsX10_right (wsV RX10 272 RX10 yX10_asks wsX10_asks) := goodIn_app (goodIn_of _ (by decide +kernel)) ggX10_right_X10_asks
set_option maxRecDepth 20000 in
theorem ggX10_right_X10_leads : GoodIn wsX10_right wsX10_leads := goodIn_r _ [181, 2, 3, 182, 183, 184, 185, 8, 186, 187, 188, 189, 190, 191, 192, 21, 22, 23, 24, 193, 194, 195, 196, 4, 13, 14, 15, 16, 197, 198, 199, 200, 201, 202, 203, 204, 205, 206, 207, 208, 209, 210, 211, 212, 213, 214, 215, 216, 217, 218, 219, 220, 221, 222, 223, 224, 225, 226, 227, 228, 229, 230, 231, 232] (by decide +kernel) (by decide +kernel)
set_option maxRecDepth 20000 in
theorem gX10_right_X10_leads : GoodIn wsX10_right (wsV RX10 275 RX10 yX10_leads wsX10_leads) := goodIn_app (goodIn_of _ (by decide +kernel)) ggX10_right_X10_leads
theorem dX10_right_0 : decode cX10_right 0 = .ok (.aload_n 0, 1) := by decide +kernel
theorem dX10_right_1 : decode cX10_right 1 = .ok (.aload_n 0, 1) := by decide +kernel
theorem dX10_right_2 : decode cX10_right 2 = .ok (.iload_n 1, 1) := by decide +kernel
theorem dX10_right_3 : decode cX10_right 3 = .ok (.invokevirtual 285, 3) := by decide +kernel
theorem dX10_right_6 : decode cX10_right 6 = .ok (.ifCond .ne 7, 3) := by decide +kernel
theorem dX10_right_9 : decode cX10_right 9 = .ok (.iconst 1, 1) := by decide +kernel
theorem dX10_right_10 : decode cX10_right 10 = .ok (.goto 4, 3) := by decide +kernel
theorem dX10_right_13 : decode cX10_right 13 = .ok (.iconst 0, 1) := by decide +kernel
theorem dX10_right_14 : decode cX10_right 14 = .ok (.putfield 63, 3) := by decide +kernel
theorem dX10_right_17 : decode cX10_right 17 = .ok (.aload_n 0, 1) := by decide +kernel
theorem dX10_right_18 : decode cX10_right 18 = .ok (.getfield 63, 3) := by decide +kernel
theorem dX10_right_21 : decode cX10_right 21 = .ok (.ifCond .le 5, 3) := by decide +kernel
theorem dX10_right_24 : decode cX10_right 24 = .ok (.iconst 0, 1) := by decide +kernel
theorem dX10_right_25 : decode cX10_right 25 = .ok (.ireturn, 1) := by decide +kernel
theorem dX10_right_26 : decode cX10_right 26 = .ok (.aload_n 0, 1) := by decide +kernel
theorem dX10_right_27 : decode cX10_right 27 = .ok (.iload_n 1, 1) := by decide +kernel
theorem dX10_right_28 : decode cX10_right 28 = .ok (.iconst 1, 1) := by decide +kernel
theorem dX10_right_29 : decode cX10_right 29 = .ok (.invokevirtual 70, 3) := by decide +kernel
theorem dX10_right_32 : decode cX10_right 32 = .ok (.istore_n 3, 1) := by decide +kernel
theorem dX10_right_33 : decode cX10_right 33 = .ok (.aload_n 0, 1) := by decide +kernel
theorem dX10_right_34 : decode cX10_right 34 = .ok (.invokevirtual 272, 3) := by decide +kernel
theorem dX10_right_37 : decode cX10_right 37 = .ok (.iconst 0, 1) := by decide +kernel
theorem dX10_right_38 : decode cX10_right 38 = .ok (.istore 4, 2) := by decide +kernel
theorem dX10_right_40 : decode cX10_right 40 = .ok (.iconst (-1), 1) := by decide +kernel
theorem dX10_right_41 : decode cX10_right 41 = .ok (.istore 5, 2) := by decide +kernel
theorem dX10_right_43 : decode cX10_right 43 = .ok (.iconst 0, 1) := by decide +kernel
theorem dX10_right_44 : decode cX10_right 44 = .ok (.istore 6, 2) := by decide +kernel
theorem dX10_right_46 : decode cX10_right 46 = .ok (.iload 6, 2) := by decide +kernel
theorem dX10_right_48 : decode cX10_right 48 = .ok (.bipush 99, 2) := by decide +kernel
theorem dX10_right_50 : decode cX10_right 50 = .ok (.if_icmp .gt 102, 3) := by decide +kernel
theorem dX10_right_53 : decode cX10_right 53 = .ok (.aload_n 0, 1) := by decide +kernel
theorem dX10_right_54 : decode cX10_right 54 = .ok (.getfield 7, 3) := by decide +kernel
theorem dX10_right_57 : decode cX10_right 57 = .ok (.bipush 12, 2) := by decide +kernel
theorem dX10_right_59 : decode cX10_right 59 = .ok (.iconst 5, 1) := by decide +kernel
theorem dX10_right_60 : decode cX10_right 60 = .ok (.iload_n 1, 1) := by decide +kernel
theorem dX10_right_61 : decode cX10_right 61 = .ok (.imul, 1) := by decide +kernel
theorem dX10_right_62 : decode cX10_right 62 = .ok (.iadd, 1) := by decide +kernel
theorem dX10_right_63 : decode cX10_right 63 = .ok (.iconst 1, 1) := by decide +kernel
theorem dX10_right_64 : decode cX10_right 64 = .ok (.iadd, 1) := by decide +kernel
theorem dX10_right_65 : decode cX10_right 65 = .ok (.iload 6, 2) := by decide +kernel
theorem dX10_right_67 : decode cX10_right 67 = .ok (.iastore, 1) := by decide +kernel
theorem dX10_right_68 : decode cX10_right 68 = .ok (.aload_n 0, 1) := by decide +kernel
theorem dX10_right_69 : decode cX10_right 69 = .ok (.iconst 0, 1) := by decide +kernel
theorem dX10_right_70 : decode cX10_right 70 = .ok (.invokevirtual 275, 3) := by decide +kernel
theorem dX10_right_73 : decode cX10_right 73 = .ok (.iconst 0, 1) := by decide +kernel
theorem dX10_right_74 : decode cX10_right 74 = .ok (.istore 7, 2) := by decide +kernel
theorem dX10_right_76 : decode cX10_right 76 = .ok (.iconst 0, 1) := by decide +kernel
theorem dX10_right_77 : decode cX10_right 77 = .ok (.istore 8, 2) := by decide +kernel
theorem dX10_right_79 : decode cX10_right 79 = .ok (.iload 8, 2) := by decide +kernel
theorem dX10_right_81 : decode cX10_right 81 = .ok (.aload_n 0, 1) := by decide +kernel
theorem dX10_right_82 : decode cX10_right 82 = .ok (.getfield 7, 3) := by decide +kernel
theorem dX10_right_85 : decode cX10_right 85 = .ok (.iconst 4, 1) := by decide +kernel
theorem dX10_right_86 : decode cX10_right 86 = .ok (.iaload, 1) := by decide +kernel
theorem dX10_right_87 : decode cX10_right 87 = .ok (.if_icmp .ge 41, 3) := by decide +kernel
theorem dX10_right_90 : decode cX10_right 90 = .ok (.iload 7, 2) := by decide +kernel
theorem dX10_right_92 : decode cX10_right 92 = .ok (.aload_n 0, 1) := by decide +kernel
theorem dX10_right_93 : decode cX10_right 93 = .ok (.getfield 35, 3) := by decide +kernel
theorem dX10_right_96 : decode cX10_right 96 = .ok (.iload 8, 2) := by decide +kernel
theorem dX10_right_98 : decode cX10_right 98 = .ok (.iaload, 1) := by decide +kernel
theorem dX10_right_99 : decode cX10_right 99 = .ok (.iload_n 1, 1) := by decide +kernel
theorem dX10_right_100 : decode cX10_right 100 = .ok (.if_icmp .ne 18, 3) := by decide +kernel
theorem dX10_right_103 : decode cX10_right 103 = .ok (.aload_n 0, 1) := by decide +kernel
theorem dX10_right_104 : decode cX10_right 104 = .ok (.getfield 32, 3) := by decide +kernel
theorem dX10_right_107 : decode cX10_right 107 = .ok (.bipush 10, 2) := by decide +kernel
theorem dX10_right_109 : decode cX10_right 109 = .ok (.iload_n 1, 1) := by decide +kernel
theorem dX10_right_110 : decode cX10_right 110 = .ok (.imul, 1) := by decide +kernel
theorem dX10_right_111 : decode cX10_right 111 = .ok (.iload 8, 2) := by decide +kernel
theorem dX10_right_113 : decode cX10_right 113 = .ok (.iadd, 1) := by decide +kernel
theorem dX10_right_114 : decode cX10_right 114 = .ok (.iaload, 1) := by decide +kernel
theorem dX10_right_115 : decode cX10_right 115 = .ok (.goto 4, 3) := by decide +kernel
theorem dX10_right_118 : decode cX10_right 118 = .ok (.iconst 0, 1) := by decide +kernel
theorem dX10_right_119 : decode cX10_right 119 = .ok (.iadd, 1) := by decide +kernel
theorem dX10_right_120 : decode cX10_right 120 = .ok (.istore 7, 2) := by decide +kernel
theorem dX10_right_122 : decode cX10_right 122 = .ok (.iinc 8 1, 3) := by decide +kernel
theorem dX10_right_125 : decode cX10_right 125 = .ok (.goto (-46), 3) := by decide +kernel
theorem dX10_right_128 : decode cX10_right 128 = .ok (.iload 7, 2) := by decide +kernel
theorem dX10_right_130 : decode cX10_right 130 = .ok (.iload 5, 2) := by decide +kernel
theorem dX10_right_132 : decode cX10_right 132 = .ok (.if_icmp .gt 6, 3) := by decide +kernel
theorem dX10_right_135 : decode cX10_right 135 = .ok (.goto 11, 3) := by decide +kernel
theorem dX10_right_138 : decode cX10_right 138 = .ok (.iload 7, 2) := by decide +kernel
theorem dX10_right_140 : decode cX10_right 140 = .ok (.istore 5, 2) := by decide +kernel
theorem dX10_right_142 : decode cX10_right 142 = .ok (.iload 6, 2) := by decide +kernel
theorem dX10_right_144 : decode cX10_right 144 = .ok (.istore 4, 2) := by decide +kernel
theorem dX10_right_146 : decode cX10_right 146 = .ok (.iinc 6 1, 3) := by decide +kernel
theorem dX10_right_149 : decode cX10_right 149 = .ok (.goto (-103), 3) := by decide +kernel
theorem dX10_right_152 : decode cX10_right 152 = .ok (.aload_n 0, 1) := by decide +kernel
theorem dX10_right_153 : decode cX10_right 153 = .ok (.getfield 7, 3) := by decide +kernel
theorem dX10_right_156 : decode cX10_right 156 = .ok (.bipush 12, 2) := by decide +kernel
theorem dX10_right_158 : decode cX10_right 158 = .ok (.iconst 5, 1) := by decide +kernel
theorem dX10_right_159 : decode cX10_right 159 = .ok (.iload_n 1, 1) := by decide +kernel
theorem dX10_right_160 : decode cX10_right 160 = .ok (.imul, 1) := by decide +kernel
theorem dX10_right_161 : decode cX10_right 161 = .ok (.iadd, 1) := by decide +kernel
theorem dX10_right_162 : decode cX10_right 162 = .ok (.iconst 1, 1) := by decide +kernel
theorem dX10_right_163 : decode cX10_right 163 = .ok (.iadd, 1) := by decide +kernel
theorem dX10_right_164 : decode cX10_right 164 = .ok (.iload_n 3, 1) := by decide +kernel
theorem dX10_right_165 : decode cX10_right 165 = .ok (.iastore, 1) := by decide +kernel
theorem dX10_right_166 : decode cX10_right 166 = .ok (.iload_n 2, 1) := by decide +kernel
theorem dX10_right_167 : decode cX10_right 167 = .ok (.ifCond .eq 8, 3) := by decide +kernel
theorem dX10_right_170 : decode cX10_right 170 = .ok (.iload 5, 2) := by decide +kernel
theorem dX10_right_172 : decode cX10_right 172 = .ok (.goto 5, 3) := by decide +kernel
theorem dX10_right_175 : decode cX10_right 175 = .ok (.iload 4, 2) := by decide +kernel
theorem dX10_right_177 : decode cX10_right 177 = .ok (.ireturn, 1) := by decide +kernel
set_option maxRecDepth 20000 in
theorem ggX10_fewest_X10_looks : GoodIn wsX10_fewest wsX10_looks := goodIn_r _ [8, 2, 3, 9, 10, 11, 7, 12, 13, 14, 15, 16, 17, 18, 19, 20, 21, 22, 23, 24, 25, 26, 27, 28, 29, 30, 31, 32, 33, 34, 35, 36, 37, 38, 39, 40, 41, 42, 43, 44, 45, 46, 47, 48, 49, 50, 51, 52, 53, 54, 55, 56, 57, 58, 59, 60, 61, 62, 63, 64, 65, 66, 67, 68, 69, 70, 71, 72, 73, 74, 75, 76, 77, 78, 79, 80, 81, 82, 83, 84, 85, 86, 87, 88, 89, 90, 91, 92, 93, 94, 95, 96, 97, 98, 99, 100, 101, 102, 103, 104, 105, 106, 107, 108, 109, 110, 111, 112, 113, 114, 115, 116, 117, 118, 119, 120, 121, 122, 123, 124, 125, 126, 127, 128, 129, 130, 131, 132, 133, 134, 135, 136, 137, 138, 139, 140, 141, 142, 143, 144, 145, 146, 147, 148, 149, 150, 151, 152, 153, 154, 155, 156, 157, 158, 159, 160, 161, 162, 163, 164, 165, 166, 167, 168, 169, 170, 171, 172, 173, 174, 175, 176, 177, 178, 179, 180, 181, 182, 183, 184, 185, 186, 187, 188, 189, 193, 194, 195, 196, 197, 198, 199, 200, 201, 202, 203, 204, 205, 206, 207, 208, 209, 210, 211, 212, 213, 214, 215, 216, 217, 218, 219, 220] (by decide +kernel) (by decide +kernel)
set_option maxRecDepth 20000 in
theorem gX10_fewest_X10_looks : GoodIn wsX10_fewest (wsV RX10 318 RX10 yX10_looks wsX10_looks) := goodIn_app (goodIn_of _ (by decide +kernel)) ggX10_fewest_X10_looks
set_option maxRecDepth 20000 in
theorem ggX10_fewest_X10_bits : GoodIn wsX10_fewest wsX10_bits := goodIn_r _ [192] (by decide +kernel) (by decide +kernel)
set_option maxRecDepth 20000 in
theorem gX10_fewest_X10_bits : GoodIn wsX10_fewest (va_wsS RX10 321 yX10_bits wsX10_bits) := goodIn_app (goodIn_of _ (by decide +kernel)) ggX10_fewest_X10_bits
set_option maxRecDepth 20000 in
theorem ggX10_fewest_X10_isOf : GoodIn wsX10_fewest wsX10_isOf := goodIn_r _ [138] (by decide +kernel) (by decide +kernel)
set_option maxRecDepth 20000 in
theorem gX10_fewest_X10_isOf : GoodIn wsX10_fewest (va_wsS RX10 117 yX10_isOf wsX10_isOf) := goodIn_app (goodIn_of _ (by decide +kernel)) ggX10_fewest_X10_isOf
theorem dX10_fewest_0 : decode cX10_fewest 0 = .ok (.aload_n 0, 1) := by decide +kernel
theorem dX10_fewest_1 : decode cX10_fewest 1 = .ok (.iconst 0, 1) := by decide +kernel
theorem dX10_fewest_2 : decode cX10_fewest 2 = .ok (.putfield 63, 3) := by decide +kernel
theorem dX10_fewest_5 : decode cX10_fewest 5 = .ok (.aload_n 0, 1) := by decide +kernel
theorem dX10_fewest_6 : decode cX10_fewest 6 = .ok (.invokevirtual 318, 3) := by decide +kernel
theorem dX10_fewest_9 : decode cX10_fewest 9 = .ok (.iconst 0, 1) := by decide +kernel
theorem dX10_fewest_10 : decode cX10_fewest 10 = .ok (.istore_n 1, 1) := by decide +kernel
theorem dX10_fewest_11 : decode cX10_fewest 11 = .ok (.iconst 0, 1) := by decide +kernel
theorem dX10_fewest_12 : decode cX10_fewest 12 = .ok (.istore_n 2, 1) := by decide +kernel
theorem dX10_fewest_13 : decode cX10_fewest 13 = .ok (.iload_n 2, 1) := by decide +kernel
theorem dX10_fewest_14 : decode cX10_fewest 14 = .ok (.aload_n 0, 1) := by decide +kernel
theorem dX10_fewest_15 : decode cX10_fewest 15 = .ok (.getfield 7, 3) := by decide +kernel
theorem dX10_fewest_18 : decode cX10_fewest 18 = .ok (.iconst 4, 1) := by decide +kernel
theorem dX10_fewest_19 : decode cX10_fewest 19 = .ok (.iaload, 1) := by decide +kernel
theorem dX10_fewest_20 : decode cX10_fewest 20 = .ok (.if_icmp .ge 18, 3) := by decide +kernel
theorem dX10_fewest_23 : decode cX10_fewest 23 = .ok (.iload_n 1, 1) := by decide +kernel
theorem dX10_fewest_24 : decode cX10_fewest 24 = .ok (.aload_n 0, 1) := by decide +kernel
theorem dX10_fewest_25 : decode cX10_fewest 25 = .ok (.getfield 47, 3) := by decide +kernel
theorem dX10_fewest_28 : decode cX10_fewest 28 = .ok (.iload_n 2, 1) := by decide +kernel
theorem dX10_fewest_29 : decode cX10_fewest 29 = .ok (.iaload, 1) := by decide +kernel
theorem dX10_fewest_30 : decode cX10_fewest 30 = .ok (.ior, 1) := by decide +kernel
theorem dX10_fewest_31 : decode cX10_fewest 31 = .ok (.istore_n 1, 1) := by decide +kernel
theorem dX10_fewest_32 : decode cX10_fewest 32 = .ok (.iinc 2 1, 3) := by decide +kernel
theorem dX10_fewest_35 : decode cX10_fewest 35 = .ok (.goto (-22), 3) := by decide +kernel
theorem dX10_fewest_38 : decode cX10_fewest 38 = .ok (.iconst (-1), 1) := by decide +kernel
theorem dX10_fewest_39 : decode cX10_fewest 39 = .ok (.istore_n 2, 1) := by decide +kernel
theorem dX10_fewest_40 : decode cX10_fewest 40 = .ok (.iconst 0, 1) := by decide +kernel
theorem dX10_fewest_41 : decode cX10_fewest 41 = .ok (.istore_n 3, 1) := by decide +kernel
theorem dX10_fewest_42 : decode cX10_fewest 42 = .ok (.iload_n 3, 1) := by decide +kernel
theorem dX10_fewest_43 : decode cX10_fewest 43 = .ok (.iconst 1, 1) := by decide +kernel
theorem dX10_fewest_44 : decode cX10_fewest 44 = .ok (.aload_n 0, 1) := by decide +kernel
theorem dX10_fewest_45 : decode cX10_fewest 45 = .ok (.getfield 7, 3) := by decide +kernel
theorem dX10_fewest_48 : decode cX10_fewest 48 = .ok (.iconst 4, 1) := by decide +kernel
theorem dX10_fewest_49 : decode cX10_fewest 49 = .ok (.iaload, 1) := by decide +kernel
theorem dX10_fewest_50 : decode cX10_fewest 50 = .ok (.ishl, 1) := by decide +kernel
theorem dX10_fewest_51 : decode cX10_fewest 51 = .ok (.if_icmp .ge 84, 3) := by decide +kernel
theorem dX10_fewest_54 : decode cX10_fewest 54 = .ok (.iload_n 2, 1) := by decide +kernel
theorem dX10_fewest_55 : decode cX10_fewest 55 = .ok (.iconst (-1), 1) := by decide +kernel
theorem dX10_fewest_56 : decode cX10_fewest 56 = .ok (.if_icmp .eq 17, 3) := by decide +kernel
theorem dX10_fewest_59 : decode cX10_fewest 59 = .ok (.iload_n 3, 1) := by decide +kernel
theorem dX10_fewest_60 : decode cX10_fewest 60 = .ok (.invokestatic 321, 3) := by decide +kernel
theorem dX10_fewest_63 : decode cX10_fewest 63 = .ok (.iload_n 2, 1) := by decide +kernel
theorem dX10_fewest_64 : decode cX10_fewest 64 = .ok (.invokestatic 321, 3) := by decide +kernel
theorem dX10_fewest_67 : decode cX10_fewest 67 = .ok (.if_icmp .lt 6, 3) := by decide +kernel
theorem dX10_fewest_70 : decode cX10_fewest 70 = .ok (.goto 59, 3) := by decide +kernel
theorem dX10_fewest_73 : decode cX10_fewest 73 = .ok (.iconst 0, 1) := by decide +kernel
theorem dX10_fewest_74 : decode cX10_fewest 74 = .ok (.istore 4, 2) := by decide +kernel
theorem dX10_fewest_76 : decode cX10_fewest 76 = .ok (.iconst 0, 1) := by decide +kernel
theorem dX10_fewest_77 : decode cX10_fewest 77 = .ok (.istore 5, 2) := by decide +kernel
theorem dX10_fewest_79 : decode cX10_fewest 79 = .ok (.iload 5, 2) := by decide +kernel
theorem dX10_fewest_81 : decode cX10_fewest 81 = .ok (.aload_n 0, 1) := by decide +kernel
theorem dX10_fewest_82 : decode cX10_fewest 82 = .ok (.getfield 7, 3) := by decide +kernel
theorem dX10_fewest_85 : decode cX10_fewest 85 = .ok (.iconst 4, 1) := by decide +kernel
theorem dX10_fewest_86 : decode cX10_fewest 86 = .ok (.iaload, 1) := by decide +kernel
theorem dX10_fewest_87 : decode cX10_fewest 87 = .ok (.if_icmp .ge 34, 3) := by decide +kernel
theorem dX10_fewest_90 : decode cX10_fewest 90 = .ok (.iload 4, 2) := by decide +kernel
theorem dX10_fewest_92 : decode cX10_fewest 92 = .ok (.iload_n 3, 1) := by decide +kernel
theorem dX10_fewest_93 : decode cX10_fewest 93 = .ok (.iload 5, 2) := by decide +kernel
theorem dX10_fewest_95 : decode cX10_fewest 95 = .ok (.invokestatic 117, 3) := by decide +kernel
theorem dX10_fewest_98 : decode cX10_fewest 98 = .ok (.ifCond .eq 13, 3) := by decide +kernel
theorem dX10_fewest_101 : decode cX10_fewest 101 = .ok (.aload_n 0, 1) := by decide +kernel
theorem dX10_fewest_102 : decode cX10_fewest 102 = .ok (.getfield 47, 3) := by decide +kernel
theorem dX10_fewest_105 : decode cX10_fewest 105 = .ok (.iload 5, 2) := by decide +kernel
theorem dX10_fewest_107 : decode cX10_fewest 107 = .ok (.iaload, 1) := by decide +kernel
theorem dX10_fewest_108 : decode cX10_fewest 108 = .ok (.goto 4, 3) := by decide +kernel
theorem dX10_fewest_111 : decode cX10_fewest 111 = .ok (.iconst 0, 1) := by decide +kernel
theorem dX10_fewest_112 : decode cX10_fewest 112 = .ok (.ior, 1) := by decide +kernel
theorem dX10_fewest_113 : decode cX10_fewest 113 = .ok (.istore 4, 2) := by decide +kernel
theorem dX10_fewest_115 : decode cX10_fewest 115 = .ok (.iinc 5 1, 3) := by decide +kernel
theorem dX10_fewest_118 : decode cX10_fewest 118 = .ok (.goto (-39), 3) := by decide +kernel
theorem dX10_fewest_121 : decode cX10_fewest 121 = .ok (.iload 4, 2) := by decide +kernel
theorem dX10_fewest_123 : decode cX10_fewest 123 = .ok (.iload_n 1, 1) := by decide +kernel
theorem dX10_fewest_124 : decode cX10_fewest 124 = .ok (.if_icmp .ne 5, 3) := by decide +kernel
theorem dX10_fewest_127 : decode cX10_fewest 127 = .ok (.iload_n 3, 1) := by decide +kernel
theorem dX10_fewest_128 : decode cX10_fewest 128 = .ok (.istore_n 2, 1) := by decide +kernel
theorem dX10_fewest_129 : decode cX10_fewest 129 = .ok (.iinc 3 1, 3) := by decide +kernel
theorem dX10_fewest_132 : decode cX10_fewest 132 = .ok (.goto (-90), 3) := by decide +kernel
theorem dX10_fewest_135 : decode cX10_fewest 135 = .ok (.iload_n 2, 1) := by decide +kernel
theorem dX10_fewest_136 : decode cX10_fewest 136 = .ok (.ireturn, 1) := by decide +kernel
set_option maxRecDepth 20000 in
theorem ggX10_alone_X10_asks : GoodIn wsX10_alone wsX10_asks := goodIn_r _ [7, 2, 8, 9, 10, 11, 6, 12, 13, 14, 15, 16, 17, 18, 19, 20, 21, 22, 23, 24, 25, 26, 27, 28, 29, 30, 31, 32, 33, 34, 35, 36, 37, 38, 39, 40, 41, 42, 43, 44, 45, 46, 47, 48, 49, 50, 51, 52, 53, 54, 55, 56, 57, 58, 59, 60, 61, 62, 63, 64, 65, 66, 67, 68, 69, 70, 71, 72, 73, 74, 75, 76, 77, 78, 79, 80, 81, 82, 83, 84, 85, 86, 87, 88, 89, 90, 91, 92, 93, 94, 95, 96, 97, 98, 99, 100, 101, 102, 103, 104, 105, 106, 107, 108, 109, 110, 111, 112, 113, 114, 115, 116, 117, 118, 119, 120, 121, 122, 123, 124, 125, 126, 127, 128, 129, 130, 131, 132, 133, 134, 135, 136, 137, 138, 139, 140, 141, 142, 143, 144, 145, 146, 147, 148, 149, 150, 151, 152, 153, 154, 155, 156, 157, 158, 159, 160, 161, 162, 163, 164, 165, 166, 167, 168, 169, 170, 171, 172, 185, 186, 187, 188, 189, 190, 191, 192, 193, 194, 195, 196, 197, 198, 199, 200, 201, 202, 203, 204, 205, 206, 207, 208, 209, 210, 211, 212] (by decide +kernel) (by decide +kernel)
set_option maxRecDepth 20000 in
theorem gX10_alone_X10_asks : GoodIn wsX10_alone (wsV RX10 272 RX10 yX10_asks wsX10_asks) := goodIn_app (goodIn_of _ (by decide +kernel)) ggX10_alone_X10_asks
set_option maxRecDepth 20000 in
theorem ggX10_alone_X10_ringsFor : GoodIn wsX10_alone wsX10_ringsFor := goodIn_r _ [176, 2, 177, 178, 179, 6, 180, 8, 181, 182, 183, 184, 26, 27, 28, 29, 185, 186, 187, 188, 189, 190, 191, 192, 193, 194, 195, 196, 197, 198, 199, 200, 201, 202, 203, 204, 205, 206, 207, 208, 209, 210, 211, 212] (by decide +kernel) (by decide +kernel)
set_option maxRecDepth 20000 in
theorem gX10_alone_X10_ringsFor : GoodIn wsX10_alone (wsV RX10 291 RX10 yX10_ringsFor wsX10_ringsFor) := goodIn_app (goodIn_of _ (by decide +kernel)) ggX10_alone_X10_ringsFor
theorem dX10_alone_0 : decode cX10_alone 0 = .ok (.aload_n 0, 1) := by decide +kernel
theorem dX10_alone_1 : decode cX10_alone 1 = .ok (.iconst 0, 1) := by decide +kernel
theorem dX10_alone_2 : decode cX10_alone 2 = .ok (.putfield 63, 3) := by decide +kernel
theorem dX10_alone_5 : decode cX10_alone 5 = .ok (.aload_n 0, 1) := by decide +kernel
theorem dX10_alone_6 : decode cX10_alone 6 = .ok (.invokevirtual 272, 3) := by decide +kernel
theorem dX10_alone_9 : decode cX10_alone 9 = .ok (.iconst 0, 1) := by decide +kernel
theorem dX10_alone_10 : decode cX10_alone 10 = .ok (.istore_n 1, 1) := by decide +kernel
theorem dX10_alone_11 : decode cX10_alone 11 = .ok (.iconst 0, 1) := by decide +kernel
theorem dX10_alone_12 : decode cX10_alone 12 = .ok (.istore_n 2, 1) := by decide +kernel
theorem dX10_alone_13 : decode cX10_alone 13 = .ok (.iload_n 2, 1) := by decide +kernel
theorem dX10_alone_14 : decode cX10_alone 14 = .ok (.aload_n 0, 1) := by decide +kernel
theorem dX10_alone_15 : decode cX10_alone 15 = .ok (.getfield 7, 3) := by decide +kernel
theorem dX10_alone_18 : decode cX10_alone 18 = .ok (.iconst 3, 1) := by decide +kernel
theorem dX10_alone_19 : decode cX10_alone 19 = .ok (.iaload, 1) := by decide +kernel
theorem dX10_alone_20 : decode cX10_alone 20 = .ok (.if_icmp .ge 27, 3) := by decide +kernel
theorem dX10_alone_23 : decode cX10_alone 23 = .ok (.iload_n 1, 1) := by decide +kernel
theorem dX10_alone_24 : decode cX10_alone 24 = .ok (.aload_n 0, 1) := by decide +kernel
theorem dX10_alone_25 : decode cX10_alone 25 = .ok (.iload_n 2, 1) := by decide +kernel
theorem dX10_alone_26 : decode cX10_alone 26 = .ok (.invokevirtual 291, 3) := by decide +kernel
theorem dX10_alone_29 : decode cX10_alone 29 = .ok (.ifCond .ne 9, 3) := by decide +kernel
theorem dX10_alone_32 : decode cX10_alone 32 = .ok (.iconst 1, 1) := by decide +kernel
theorem dX10_alone_33 : decode cX10_alone 33 = .ok (.iload_n 2, 1) := by decide +kernel
theorem dX10_alone_34 : decode cX10_alone 34 = .ok (.ishl, 1) := by decide +kernel
theorem dX10_alone_35 : decode cX10_alone 35 = .ok (.goto 4, 3) := by decide +kernel
theorem dX10_alone_38 : decode cX10_alone 38 = .ok (.iconst 0, 1) := by decide +kernel
theorem dX10_alone_39 : decode cX10_alone 39 = .ok (.ior, 1) := by decide +kernel
theorem dX10_alone_40 : decode cX10_alone 40 = .ok (.istore_n 1, 1) := by decide +kernel
theorem dX10_alone_41 : decode cX10_alone 41 = .ok (.iinc 2 1, 3) := by decide +kernel
theorem dX10_alone_44 : decode cX10_alone 44 = .ok (.goto (-31), 3) := by decide +kernel
theorem dX10_alone_47 : decode cX10_alone 47 = .ok (.iload_n 1, 1) := by decide +kernel
theorem dX10_alone_48 : decode cX10_alone 48 = .ok (.ireturn, 1) := by decide +kernel
set_option maxRecDepth 20000 in
theorem ggX10_rivals_X10_isThing : GoodIn wsX10_rivals wsX10_isThing := goodIn_r _ [6, 7, 8, 9, 5, 10, 189, 190, 191, 192, 193, 194, 195, 196, 197, 198, 199, 200, 201, 202, 203, 204, 205, 206, 207, 208, 209, 210, 211, 212, 213, 214, 215, 216] (by decide +kernel) (by decide +kernel)
set_option maxRecDepth 20000 in
theorem gX10_rivals_X10_isThing : GoodIn wsX10_rivals (wsV RX10 285 RX10 yX10_isThing wsX10_isThing) := goodIn_app (goodIn_of _ (by decide +kernel)) ggX10_rivals_X10_isThing
set_option maxRecDepth 20000 in
theorem ggX10_rivals_X10_asks : GoodIn wsX10_rivals wsX10_asks := goodIn_r _ [14, 7, 15, 16, 17, 18, 5, 19, 20, 21, 22, 23, 24, 25, 26, 27, 28, 29, 30, 31, 32, 33, 34, 35, 36, 37, 38, 39, 40, 41, 42, 43, 44, 45, 46, 47, 48, 49, 50, 51, 52, 53, 54, 55, 56, 57, 58, 59, 60, 61, 8, 9, 10, 62, 63, 64, 65, 66, 67, 68, 69, 70, 71, 72, 73, 74, 75, 76, 77, 78, 79, 80, 81, 82, 83, 84, 85, 86, 87, 88, 89, 90, 91, 92, 93, 94, 95, 96, 97, 98, 99, 100, 101, 102, 103, 104, 105, 106, 107, 108, 109, 110, 111, 112, 113, 114, 115, 116, 117, 118, 119, 120, 121, 122, 123, 124, 125, 126, 127, 128, 129, 130, 131, 132, 133, 134, 135, 136, 137, 138, 139, 140, 141, 142, 143, 144, 145, 146, 147, 148, 149, 150, 151, 152, 153, 154, 155, 156, 157, 158, 159, 160, 161, 162, 163, 164, 165, 166, 167, 168, 169, 170, 171, 172, 173, 174, 175, 176, 189, 190, 191, 192, 193, 194, 195, 196, 197, 198, 199, 200, 201, 202, 203, 204, 205, 206, 207, 208, 209, 210, 211, 212, 213, 214, 215, 216] (by decide +kernel) (by decide +kernel)
set_option maxRecDepth 20000 in
theorem gX10_rivals_X10_asks : GoodIn wsX10_rivals (wsV RX10 272 RX10 yX10_asks wsX10_asks) := goodIn_app (goodIn_of _ (by decide +kernel)) ggX10_rivals_X10_asks
set_option maxRecDepth 20000 in
theorem ggX10_rivals_X10_ringsFor : GoodIn wsX10_rivals wsX10_ringsFor := goodIn_r _ [180, 7, 181, 182, 183, 5, 184, 15, 185, 186, 187, 188, 33, 34, 35, 36, 189, 190, 191, 192, 193, 194, 195, 196, 197, 198, 199, 200, 201, 202, 203, 204, 205, 206, 207, 208, 209, 210, 211, 212, 213, 214, 215, 216] (by decide +kernel) (by decide +kernel)
set_option maxRecDepth 20000 in
theorem gX10_rivals_X10_ringsFor : GoodIn wsX10_rivals (wsV RX10 291 RX10 yX10_ringsFor wsX10_ringsFor) := goodIn_app (goodIn_of _ (by decide +kernel)) ggX10_rivals_X10_ringsFor
theorem dX10_rivals_0 : decode cX10_rivals 0 = .ok (.aload_n 0, 1) := by decide +kernel
theorem dX10_rivals_1 : decode cX10_rivals 1 = .ok (.aload_n 0, 1) := by decide +kernel
theorem dX10_rivals_2 : decode cX10_rivals 2 = .ok (.iload_n 1, 1) := by decide +kernel
theorem dX10_rivals_3 : decode cX10_rivals 3 = .ok (.invokevirtual 285, 3) := by decide +kernel
theorem dX10_rivals_6 : decode cX10_rivals 6 = .ok (.ifCond .eq 11, 3) := by decide +kernel
theorem dX10_rivals_9 : decode cX10_rivals 9 = .ok (.aload_n 0, 1) := by decide +kernel
theorem dX10_rivals_10 : decode cX10_rivals 10 = .ok (.iload_n 2, 1) := by decide +kernel
theorem dX10_rivals_11 : decode cX10_rivals 11 = .ok (.invokevirtual 285, 3) := by decide +kernel
theorem dX10_rivals_14 : decode cX10_rivals 14 = .ok (.ifCond .ne 7, 3) := by decide +kernel
theorem dX10_rivals_17 : decode cX10_rivals 17 = .ok (.iconst 1, 1) := by decide +kernel
theorem dX10_rivals_18 : decode cX10_rivals 18 = .ok (.goto 13, 3) := by decide +kernel
theorem dX10_rivals_21 : decode cX10_rivals 21 = .ok (.iload_n 1, 1) := by decide +kernel
theorem dX10_rivals_22 : decode cX10_rivals 22 = .ok (.iload_n 2, 1) := by decide +kernel
theorem dX10_rivals_23 : decode cX10_rivals 23 = .ok (.if_icmp .ne 7, 3) := by decide +kernel
theorem dX10_rivals_26 : decode cX10_rivals 26 = .ok (.iconst 2, 1) := by decide +kernel
theorem dX10_rivals_27 : decode cX10_rivals 27 = .ok (.goto 4, 3) := by decide +kernel
theorem dX10_rivals_30 : decode cX10_rivals 30 = .ok (.iconst 0, 1) := by decide +kernel
theorem dX10_rivals_31 : decode cX10_rivals 31 = .ok (.putfield 63, 3) := by decide +kernel
theorem dX10_rivals_34 : decode cX10_rivals 34 = .ok (.aload_n 0, 1) := by decide +kernel
theorem dX10_rivals_35 : decode cX10_rivals 35 = .ok (.getfield 63, 3) := by decide +kernel
theorem dX10_rivals_38 : decode cX10_rivals 38 = .ok (.ifCond .le 5, 3) := by decide +kernel
theorem dX10_rivals_41 : decode cX10_rivals 41 = .ok (.iconst 0, 1) := by decide +kernel
theorem dX10_rivals_42 : decode cX10_rivals 42 = .ok (.ireturn, 1) := by decide +kernel
theorem dX10_rivals_43 : decode cX10_rivals 43 = .ok (.aload_n 0, 1) := by decide +kernel
theorem dX10_rivals_44 : decode cX10_rivals 44 = .ok (.invokevirtual 272, 3) := by decide +kernel
theorem dX10_rivals_47 : decode cX10_rivals 47 = .ok (.aload_n 0, 1) := by decide +kernel
theorem dX10_rivals_48 : decode cX10_rivals 48 = .ok (.iload_n 1, 1) := by decide +kernel
theorem dX10_rivals_49 : decode cX10_rivals 49 = .ok (.invokevirtual 291, 3) := by decide +kernel
theorem dX10_rivals_52 : decode cX10_rivals 52 = .ok (.aload_n 0, 1) := by decide +kernel
theorem dX10_rivals_53 : decode cX10_rivals 53 = .ok (.iload_n 2, 1) := by decide +kernel
theorem dX10_rivals_54 : decode cX10_rivals 54 = .ok (.invokevirtual 291, 3) := by decide +kernel
theorem dX10_rivals_57 : decode cX10_rivals 57 = .ok (.iand, 1) := by decide +kernel
theorem dX10_rivals_58 : decode cX10_rivals 58 = .ok (.ireturn, 1) := by decide +kernel
set_option maxRecDepth 20000 in
theorem ggX10_group_X10_isIn : GoodIn wsX10_group wsX10_isIn := goodIn_r _ [7] (by decide +kernel) (by decide +kernel)
set_option maxRecDepth 20000 in
theorem gX10_group_X10_isIn : GoodIn wsX10_group (va_wsS RX10 66 yX10_isIn wsX10_isIn) := goodIn_app (goodIn_of _ (by decide +kernel)) ggX10_group_X10_isIn
set_option maxRecDepth 20000 in
theorem ggX10_group_X10_tomorrow : GoodIn wsX10_group wsX10_tomorrow := goodIn_r _ [11, 12, 13, 14, 6, 15, 2, 16, 17, 18, 19, 20, 21, 22, 23, 24, 25, 26, 27, 28, 29, 30, 31, 32, 33, 34, 35, 36, 37, 38, 39, 40, 41, 42, 43, 44, 45, 46, 47, 48, 49, 50, 51, 52, 53, 54, 55, 56, 57, 58, 59, 60, 61, 62, 4, 5, 7, 63, 64, 65, 66, 67, 68, 69, 70, 71, 72, 73, 74, 75, 76, 77, 78, 79, 80, 81, 82, 83, 84, 85, 86, 87, 88, 89, 90, 91, 92, 93, 94, 95, 96, 97, 98, 99, 100, 101, 102, 103, 104, 105, 106, 107, 108, 109, 110, 111, 112, 113, 114, 115, 116, 117, 118, 119, 120, 121, 122, 123, 124, 125, 126, 127, 128, 129, 130, 131, 132, 133, 134, 135, 136, 137, 138, 139, 140, 141, 142, 143, 144, 145, 146, 147, 148, 149, 150, 151, 152, 153, 154, 155, 156, 157, 158, 159, 160, 161, 162, 163, 164, 165, 166, 167, 168, 169, 170, 171, 172, 173, 174, 175, 176, 177, 178, 179, 180, 181, 3, 182, 183, 184, 185, 186, 187, 188, 189, 190, 191, 192, 193, 194, 195, 196, 197, 198, 199, 200, 201, 202, 203, 204, 205, 206, 207, 208, 209, 210, 211, 212, 213, 214, 215, 216, 217, 218, 219, 220, 221, 222, 223, 224, 225, 226, 227, 228, 229, 230, 231, 232] (by decide +kernel) (by decide +kernel)
set_option maxRecDepth 20000 in
theorem gX10_group_X10_tomorrow : GoodIn wsX10_group (wsV RX10 288 RX10 yX10_tomorrow wsX10_tomorrow) := goodIn_app (goodIn_of _ (by decide +kernel)) ggX10_group_X10_tomorrow
set_option maxRecDepth 20000 in
theorem ggX10_group_X10_ofOne : GoodIn wsX10_group wsX10_ofOne := goodIn_r _ [20, 2, 205, 206, 207, 208, 209, 210, 211, 212, 213, 214, 215, 216, 217, 218, 219, 220, 221, 222, 223, 224, 225, 226, 227, 228, 229, 230, 231, 232] (by decide +kernel) (by decide +kernel)
set_option maxRecDepth 20000 in
theorem gX10_group_X10_ofOne : GoodIn wsX10_group (wsV RX10 246 RX10 yX10_ofOne wsX10_ofOne) := goodIn_app (goodIn_of _ (by decide +kernel)) ggX10_group_X10_ofOne
theorem dX10_group_0 : decode cX10_group 0 = .ok (.aload_n 0, 1) := by decide +kernel
theorem dX10_group_1 : decode cX10_group 1 = .ok (.iload_n 1, 1) := by decide +kernel
theorem dX10_group_2 : decode cX10_group 2 = .ok (.iconst 0, 1) := by decide +kernel
theorem dX10_group_3 : decode cX10_group 3 = .ok (.bipush 9, 2) := by decide +kernel
theorem dX10_group_5 : decode cX10_group 5 = .ok (.invokestatic 66, 3) := by decide +kernel
theorem dX10_group_8 : decode cX10_group 8 = .ok (.ifCond .ne 7, 3) := by decide +kernel
theorem dX10_group_11 : decode cX10_group 11 = .ok (.iconst 1, 1) := by decide +kernel
theorem dX10_group_12 : decode cX10_group 12 = .ok (.goto 4, 3) := by decide +kernel
theorem dX10_group_15 : decode cX10_group 15 = .ok (.iconst 0, 1) := by decide +kernel
theorem dX10_group_16 : decode cX10_group 16 = .ok (.putfield 63, 3) := by decide +kernel
theorem dX10_group_19 : decode cX10_group 19 = .ok (.aload_n 0, 1) := by decide +kernel
theorem dX10_group_20 : decode cX10_group 20 = .ok (.getfield 63, 3) := by decide +kernel
theorem dX10_group_23 : decode cX10_group 23 = .ok (.ifCond .le 5, 3) := by decide +kernel
theorem dX10_group_26 : decode cX10_group 26 = .ok (.iconst 0, 1) := by decide +kernel
theorem dX10_group_27 : decode cX10_group 27 = .ok (.ireturn, 1) := by decide +kernel
theorem dX10_group_28 : decode cX10_group 28 = .ok (.aload_n 0, 1) := by decide +kernel
theorem dX10_group_29 : decode cX10_group 29 = .ok (.invokevirtual 288, 3) := by decide +kernel
theorem dX10_group_32 : decode cX10_group 32 = .ok (.iconst 0, 1) := by decide +kernel
theorem dX10_group_33 : decode cX10_group 33 = .ok (.istore_n 3, 1) := by decide +kernel
theorem dX10_group_34 : decode cX10_group 34 = .ok (.iconst 0, 1) := by decide +kernel
theorem dX10_group_35 : decode cX10_group 35 = .ok (.istore 4, 2) := by decide +kernel
theorem dX10_group_37 : decode cX10_group 37 = .ok (.iload 4, 2) := by decide +kernel
theorem dX10_group_39 : decode cX10_group 39 = .ok (.aload_n 0, 1) := by decide +kernel
theorem dX10_group_40 : decode cX10_group 40 = .ok (.getfield 7, 3) := by decide +kernel
theorem dX10_group_43 : decode cX10_group 43 = .ok (.iconst 4, 1) := by decide +kernel
theorem dX10_group_44 : decode cX10_group 44 = .ok (.iaload, 1) := by decide +kernel
theorem dX10_group_45 : decode cX10_group 45 = .ok (.if_icmp .ge 79, 3) := by decide +kernel
theorem dX10_group_48 : decode cX10_group 48 = .ok (.aload_n 0, 1) := by decide +kernel
theorem dX10_group_49 : decode cX10_group 49 = .ok (.iload 4, 2) := by decide +kernel
theorem dX10_group_51 : decode cX10_group 51 = .ok (.iconst 2, 1) := by decide +kernel
theorem dX10_group_52 : decode cX10_group 52 = .ok (.invokevirtual 246, 3) := by decide +kernel
theorem dX10_group_55 : decode cX10_group 55 = .ok (.iload_n 1, 1) := by decide +kernel
theorem dX10_group_56 : decode cX10_group 56 = .ok (.if_icmp .eq 6, 3) := by decide +kernel
theorem dX10_group_59 : decode cX10_group 59 = .ok (.goto 59, 3) := by decide +kernel
theorem dX10_group_62 : decode cX10_group 62 = .ok (.iload_n 2, 1) := by decide +kernel
theorem dX10_group_63 : decode cX10_group 63 = .ok (.ifCond .eq 28, 3) := by decide +kernel
theorem dX10_group_66 : decode cX10_group 66 = .ok (.iload_n 3, 1) := by decide +kernel
theorem dX10_group_67 : decode cX10_group 67 = .ok (.aload_n 0, 1) := by decide +kernel
theorem dX10_group_68 : decode cX10_group 68 = .ok (.getfield 35, 3) := by decide +kernel
theorem dX10_group_71 : decode cX10_group 71 = .ok (.iload 4, 2) := by decide +kernel
theorem dX10_group_73 : decode cX10_group 73 = .ok (.iaload, 1) := by decide +kernel
theorem dX10_group_74 : decode cX10_group 74 = .ok (.iconst (-1), 1) := by decide +kernel
theorem dX10_group_75 : decode cX10_group 75 = .ok (.if_icmp .ne 10, 3) := by decide +kernel
theorem dX10_group_78 : decode cX10_group 78 = .ok (.iconst 1, 1) := by decide +kernel
theorem dX10_group_79 : decode cX10_group 79 = .ok (.iload 4, 2) := by decide +kernel
theorem dX10_group_81 : decode cX10_group 81 = .ok (.ishl, 1) := by decide +kernel
theorem dX10_group_82 : decode cX10_group 82 = .ok (.goto 4, 3) := by decide +kernel
theorem dX10_group_85 : decode cX10_group 85 = .ok (.iconst 0, 1) := by decide +kernel
theorem dX10_group_86 : decode cX10_group 86 = .ok (.ior, 1) := by decide +kernel
theorem dX10_group_87 : decode cX10_group 87 = .ok (.istore_n 3, 1) := by decide +kernel
theorem dX10_group_88 : decode cX10_group 88 = .ok (.goto 30, 3) := by decide +kernel
theorem dX10_group_91 : decode cX10_group 91 = .ok (.iload_n 3, 1) := by decide +kernel
theorem dX10_group_92 : decode cX10_group 92 = .ok (.aload_n 0, 1) := by decide +kernel
theorem dX10_group_93 : decode cX10_group 93 = .ok (.getfield 35, 3) := by decide +kernel
theorem dX10_group_96 : decode cX10_group 96 = .ok (.iload 4, 2) := by decide +kernel
theorem dX10_group_98 : decode cX10_group 98 = .ok (.iaload, 1) := by decide +kernel
theorem dX10_group_99 : decode cX10_group 99 = .ok (.iconst (-1), 1) := by decide +kernel
theorem dX10_group_100 : decode cX10_group 100 = .ok (.if_icmp .ne 7, 3) := by decide +kernel
theorem dX10_group_103 : decode cX10_group 103 = .ok (.iconst 0, 1) := by decide +kernel
theorem dX10_group_104 : decode cX10_group 104 = .ok (.goto 12, 3) := by decide +kernel
theorem dX10_group_107 : decode cX10_group 107 = .ok (.iconst 1, 1) := by decide +kernel
theorem dX10_group_108 : decode cX10_group 108 = .ok (.aload_n 0, 1) := by decide +kernel
theorem dX10_group_109 : decode cX10_group 109 = .ok (.getfield 35, 3) := by decide +kernel
theorem dX10_group_112 : decode cX10_group 112 = .ok (.iload 4, 2) := by decide +kernel
theorem dX10_group_114 : decode cX10_group 114 = .ok (.iaload, 1) := by decide +kernel
theorem dX10_group_115 : decode cX10_group 115 = .ok (.ishl, 1) := by decide +kernel
theorem dX10_group_116 : decode cX10_group 116 = .ok (.ior, 1) := by decide +kernel
theorem dX10_group_117 : decode cX10_group 117 = .ok (.istore_n 3, 1) := by decide +kernel
theorem dX10_group_118 : decode cX10_group 118 = .ok (.iinc 4 1, 3) := by decide +kernel
theorem dX10_group_121 : decode cX10_group 121 = .ok (.goto (-84), 3) := by decide +kernel
theorem dX10_group_124 : decode cX10_group 124 = .ok (.iload_n 3, 1) := by decide +kernel
theorem dX10_group_125 : decode cX10_group 125 = .ok (.ireturn, 1) := by decide +kernel
set_option maxRecDepth 20000 in
theorem ggX10_wanted_X10_ofOne : GoodIn wsX10_wanted wsX10_ofOne := goodIn_r _ [9, 3, 10, 11, 12, 13, 14, 15, 16, 17, 18, 19, 20, 21, 22, 23, 24, 25, 26, 27, 28, 29, 30, 31, 32, 33, 34, 35, 36, 37] (by decide +kernel) (by decide +kernel)
set_option maxRecDepth 20000 in
theorem gX10_wanted_X10_ofOne : GoodIn wsX10_wanted (wsV RX10 246 RX10 yX10_ofOne wsX10_ofOne) := goodIn_app (goodIn_of _ (by decide +kernel)) ggX10_wanted_X10_ofOne
theorem dX10_wanted_0 : decode cX10_wanted 0 = .ok (.aload_n 0, 1) := by decide +kernel
theorem dX10_wanted_1 : decode cX10_wanted 1 = .ok (.getfield 74, 3) := by decide +kernel
theorem dX10_wanted_4 : decode cX10_wanted 4 = .ok (.istore_n 1, 1) := by decide +kernel
theorem dX10_wanted_5 : decode cX10_wanted 5 = .ok (.aload_n 0, 1) := by decide +kernel
theorem dX10_wanted_6 : decode cX10_wanted 6 = .ok (.iconst 0, 1) := by decide +kernel
theorem dX10_wanted_7 : decode cX10_wanted 7 = .ok (.putfield 74, 3) := by decide +kernel
theorem dX10_wanted_10 : decode cX10_wanted 10 = .ok (.iload_n 1, 1) := by decide +kernel
theorem dX10_wanted_11 : decode cX10_wanted 11 = .ok (.iconst 2, 1) := by decide +kernel
theorem dX10_wanted_12 : decode cX10_wanted 12 = .ok (.irem, 1) := by decide +kernel
theorem dX10_wanted_13 : decode cX10_wanted 13 = .ok (.ifCond .ne 13, 3) := by decide +kernel
theorem dX10_wanted_16 : decode cX10_wanted 16 = .ok (.iload_n 1, 1) := by decide +kernel
theorem dX10_wanted_17 : decode cX10_wanted 17 = .ok (.bipush 40, 2) := by decide +kernel
theorem dX10_wanted_19 : decode cX10_wanted 19 = .ok (.if_icmp .gt 7, 3) := by decide +kernel
theorem dX10_wanted_22 : decode cX10_wanted 22 = .ok (.iconst 1, 1) := by decide +kernel
theorem dX10_wanted_23 : decode cX10_wanted 23 = .ok (.goto 4, 3) := by decide +kernel
theorem dX10_wanted_26 : decode cX10_wanted 26 = .ok (.iconst 0, 1) := by decide +kernel
theorem dX10_wanted_27 : decode cX10_wanted 27 = .ok (.istore_n 2, 1) := by decide +kernel
theorem dX10_wanted_28 : decode cX10_wanted 28 = .ok (.iconst 0, 1) := by decide +kernel
theorem dX10_wanted_29 : decode cX10_wanted 29 = .ok (.istore_n 3, 1) := by decide +kernel
theorem dX10_wanted_30 : decode cX10_wanted 30 = .ok (.iload_n 3, 1) := by decide +kernel
theorem dX10_wanted_31 : decode cX10_wanted 31 = .ok (.iload_n 1, 1) := by decide +kernel
theorem dX10_wanted_32 : decode cX10_wanted 32 = .ok (.if_icmp .ge 44, 3) := by decide +kernel
theorem dX10_wanted_35 : decode cX10_wanted 35 = .ok (.iload_n 2, 1) := by decide +kernel
theorem dX10_wanted_36 : decode cX10_wanted 36 = .ok (.ifCond .eq 40, 3) := by decide +kernel
theorem dX10_wanted_39 : decode cX10_wanted 39 = .ok (.aload_n 0, 1) := by decide +kernel
theorem dX10_wanted_40 : decode cX10_wanted 40 = .ok (.getfield 22, 3) := by decide +kernel
theorem dX10_wanted_43 : decode cX10_wanted 43 = .ok (.iload_n 3, 1) := by decide +kernel
theorem dX10_wanted_44 : decode cX10_wanted 44 = .ok (.iaload, 1) := by decide +kernel
theorem dX10_wanted_45 : decode cX10_wanted 45 = .ok (.iload_n 3, 1) := by decide +kernel
theorem dX10_wanted_46 : decode cX10_wanted 46 = .ok (.iconst 2, 1) := by decide +kernel
theorem dX10_wanted_47 : decode cX10_wanted 47 = .ok (.irem, 1) := by decide +kernel
theorem dX10_wanted_48 : decode cX10_wanted 48 = .ok (.ifCond .ne 12, 3) := by decide +kernel
theorem dX10_wanted_51 : decode cX10_wanted 51 = .ok (.aload_n 0, 1) := by decide +kernel
theorem dX10_wanted_52 : decode cX10_wanted 52 = .ok (.getfield 7, 3) := by decide +kernel
theorem dX10_wanted_55 : decode cX10_wanted 55 = .ok (.iconst 4, 1) := by decide +kernel
theorem dX10_wanted_56 : decode cX10_wanted 56 = .ok (.iaload, 1) := by decide +kernel
theorem dX10_wanted_57 : decode cX10_wanted 57 = .ok (.goto 4, 3) := by decide +kernel
theorem dX10_wanted_60 : decode cX10_wanted 60 = .ok (.iconst 2, 1) := by decide +kernel
theorem dX10_wanted_61 : decode cX10_wanted 61 = .ok (.if_icmp .ge 7, 3) := by decide +kernel
theorem dX10_wanted_64 : decode cX10_wanted 64 = .ok (.iconst 1, 1) := by decide +kernel
theorem dX10_wanted_65 : decode cX10_wanted 65 = .ok (.goto 4, 3) := by decide +kernel
theorem dX10_wanted_68 : decode cX10_wanted 68 = .ok (.iconst 0, 1) := by decide +kernel
theorem dX10_wanted_69 : decode cX10_wanted 69 = .ok (.istore_n 2, 1) := by decide +kernel
theorem dX10_wanted_70 : decode cX10_wanted 70 = .ok (.iinc 3 1, 3) := by decide +kernel
theorem dX10_wanted_73 : decode cX10_wanted 73 = .ok (.goto (-43), 3) := by decide +kernel
theorem dX10_wanted_76 : decode cX10_wanted 76 = .ok (.iload_n 2, 1) := by decide +kernel
theorem dX10_wanted_77 : decode cX10_wanted 77 = .ok (.ifCond .ne 5, 3) := by decide +kernel
theorem dX10_wanted_80 : decode cX10_wanted 80 = .ok (.iconst (-1), 1) := by decide +kernel
theorem dX10_wanted_81 : decode cX10_wanted 81 = .ok (.ireturn, 1) := by decide +kernel
theorem dX10_wanted_82 : decode cX10_wanted 82 = .ok (.iconst 0, 1) := by decide +kernel
theorem dX10_wanted_83 : decode cX10_wanted 83 = .ok (.istore_n 3, 1) := by decide +kernel
theorem dX10_wanted_84 : decode cX10_wanted 84 = .ok (.iconst 0, 1) := by decide +kernel
theorem dX10_wanted_85 : decode cX10_wanted 85 = .ok (.istore 4, 2) := by decide +kernel
theorem dX10_wanted_87 : decode cX10_wanted 87 = .ok (.iload 4, 2) := by decide +kernel
theorem dX10_wanted_89 : decode cX10_wanted 89 = .ok (.bipush 64, 2) := by decide +kernel
theorem dX10_wanted_91 : decode cX10_wanted 91 = .ok (.if_icmp .ge 118, 3) := by decide +kernel
theorem dX10_wanted_94 : decode cX10_wanted 94 = .ok (.aload_n 0, 1) := by decide +kernel
theorem dX10_wanted_95 : decode cX10_wanted 95 = .ok (.getfield 59, 3) := by decide +kernel
theorem dX10_wanted_98 : decode cX10_wanted 98 = .ok (.iload 4, 2) := by decide +kernel
theorem dX10_wanted_100 : decode cX10_wanted 100 = .ok (.iconst 1, 1) := by decide +kernel
theorem dX10_wanted_101 : decode cX10_wanted 101 = .ok (.bastore, 1) := by decide +kernel
theorem dX10_wanted_102 : decode cX10_wanted 102 = .ok (.iconst 0, 1) := by decide +kernel
theorem dX10_wanted_103 : decode cX10_wanted 103 = .ok (.istore 5, 2) := by decide +kernel
theorem dX10_wanted_105 : decode cX10_wanted 105 = .ok (.iload 5, 2) := by decide +kernel
theorem dX10_wanted_107 : decode cX10_wanted 107 = .ok (.iload_n 1, 1) := by decide +kernel
theorem dX10_wanted_108 : decode cX10_wanted 108 = .ok (.if_icmp .ge 77, 3) := by decide +kernel
theorem dX10_wanted_111 : decode cX10_wanted 111 = .ok (.aload_n 0, 1) := by decide +kernel
theorem dX10_wanted_112 : decode cX10_wanted 112 = .ok (.getfield 59, 3) := by decide +kernel
theorem dX10_wanted_115 : decode cX10_wanted 115 = .ok (.iload 4, 2) := by decide +kernel
theorem dX10_wanted_117 : decode cX10_wanted 117 = .ok (.baload, 1) := by decide +kernel
theorem dX10_wanted_118 : decode cX10_wanted 118 = .ok (.ifCond .eq 67, 3) := by decide +kernel
theorem dX10_wanted_121 : decode cX10_wanted 121 = .ok (.aload_n 0, 1) := by decide +kernel
theorem dX10_wanted_122 : decode cX10_wanted 122 = .ok (.getfield 59, 3) := by decide +kernel
theorem dX10_wanted_125 : decode cX10_wanted 125 = .ok (.iload 4, 2) := by decide +kernel
theorem dX10_wanted_127 : decode cX10_wanted 127 = .ok (.iload 4, 2) := by decide +kernel
theorem dX10_wanted_129 : decode cX10_wanted 129 = .ok (.aload_n 0, 1) := by decide +kernel
theorem dX10_wanted_130 : decode cX10_wanted 130 = .ok (.aload_n 0, 1) := by decide +kernel
theorem dX10_wanted_131 : decode cX10_wanted 131 = .ok (.getfield 22, 3) := by decide +kernel
theorem dX10_wanted_134 : decode cX10_wanted 134 = .ok (.iload 5, 2) := by decide +kernel
theorem dX10_wanted_136 : decode cX10_wanted 136 = .ok (.iaload, 1) := by decide +kernel
theorem dX10_wanted_137 : decode cX10_wanted 137 = .ok (.iconst 4, 1) := by decide +kernel
theorem dX10_wanted_138 : decode cX10_wanted 138 = .ok (.invokevirtual 246, 3) := by decide +kernel
theorem dX10_wanted_141 : decode cX10_wanted 141 = .ok (.iconst (-1), 1) := by decide +kernel
theorem dX10_wanted_142 : decode cX10_wanted 142 = .ok (.ixor, 1) := by decide +kernel
theorem dX10_wanted_143 : decode cX10_wanted 143 = .ok (.iand, 1) := by decide +kernel
theorem dX10_wanted_144 : decode cX10_wanted 144 = .ok (.ifCond .ne 7, 3) := by decide +kernel
theorem dX10_wanted_147 : decode cX10_wanted 147 = .ok (.iconst 1, 1) := by decide +kernel
theorem dX10_wanted_148 : decode cX10_wanted 148 = .ok (.goto 4, 3) := by decide +kernel
theorem dX10_wanted_151 : decode cX10_wanted 151 = .ok (.iconst 0, 1) := by decide +kernel
theorem dX10_wanted_152 : decode cX10_wanted 152 = .ok (.aload_n 0, 1) := by decide +kernel
theorem dX10_wanted_153 : decode cX10_wanted 153 = .ok (.getfield 22, 3) := by decide +kernel
theorem dX10_wanted_156 : decode cX10_wanted 156 = .ok (.iload 5, 2) := by decide +kernel
theorem dX10_wanted_158 : decode cX10_wanted 158 = .ok (.iconst 1, 1) := by decide +kernel
theorem dX10_wanted_159 : decode cX10_wanted 159 = .ok (.iadd, 1) := by decide +kernel
theorem dX10_wanted_160 : decode cX10_wanted 160 = .ok (.iaload, 1) := by decide +kernel
theorem dX10_wanted_161 : decode cX10_wanted 161 = .ok (.iconst 1, 1) := by decide +kernel
theorem dX10_wanted_162 : decode cX10_wanted 162 = .ok (.if_icmp .ne 7, 3) := by decide +kernel
theorem dX10_wanted_165 : decode cX10_wanted 165 = .ok (.iconst 1, 1) := by decide +kernel
theorem dX10_wanted_166 : decode cX10_wanted 166 = .ok (.goto 4, 3) := by decide +kernel
theorem dX10_wanted_169 : decode cX10_wanted 169 = .ok (.iconst 0, 1) := by decide +kernel
theorem dX10_wanted_170 : decode cX10_wanted 170 = .ok (.if_icmp .ne 7, 3) := by decide +kernel
theorem dX10_wanted_173 : decode cX10_wanted 173 = .ok (.iconst 1, 1) := by decide +kernel
theorem dX10_wanted_174 : decode cX10_wanted 174 = .ok (.goto 4, 3) := by decide +kernel
theorem dX10_wanted_177 : decode cX10_wanted 177 = .ok (.iconst 0, 1) := by decide +kernel
theorem dX10_wanted_178 : decode cX10_wanted 178 = .ok (.bastore, 1) := by decide +kernel
theorem dX10_wanted_179 : decode cX10_wanted 179 = .ok (.iinc 5 2, 3) := by decide +kernel
theorem dX10_wanted_182 : decode cX10_wanted 182 = .ok (.goto (-77), 3) := by decide +kernel
theorem dX10_wanted_185 : decode cX10_wanted 185 = .ok (.iload_n 3, 1) := by decide +kernel
theorem dX10_wanted_186 : decode cX10_wanted 186 = .ok (.aload_n 0, 1) := by decide +kernel
theorem dX10_wanted_187 : decode cX10_wanted 187 = .ok (.getfield 59, 3) := by decide +kernel
theorem dX10_wanted_190 : decode cX10_wanted 190 = .ok (.iload 4, 2) := by decide +kernel
theorem dX10_wanted_192 : decode cX10_wanted 192 = .ok (.baload, 1) := by decide +kernel
theorem dX10_wanted_193 : decode cX10_wanted 193 = .ok (.ifCond .eq 7, 3) := by decide +kernel
theorem dX10_wanted_196 : decode cX10_wanted 196 = .ok (.iconst 1, 1) := by decide +kernel
theorem dX10_wanted_197 : decode cX10_wanted 197 = .ok (.goto 4, 3) := by decide +kernel
theorem dX10_wanted_200 : decode cX10_wanted 200 = .ok (.iconst 0, 1) := by decide +kernel
theorem dX10_wanted_201 : decode cX10_wanted 201 = .ok (.iadd, 1) := by decide +kernel
theorem dX10_wanted_202 : decode cX10_wanted 202 = .ok (.istore_n 3, 1) := by decide +kernel
theorem dX10_wanted_203 : decode cX10_wanted 203 = .ok (.iinc 4 1, 3) := by decide +kernel
theorem dX10_wanted_206 : decode cX10_wanted 206 = .ok (.goto (-119), 3) := by decide +kernel
theorem dX10_wanted_209 : decode cX10_wanted 209 = .ok (.iload_n 3, 1) := by decide +kernel
theorem dX10_wanted_210 : decode cX10_wanted 210 = .ok (.ireturn, 1) := by decide +kernel
set_option maxRecDepth 20000 in
theorem ggX10_wants_X10_wanted : GoodIn wsX10_wants wsX10_wanted := goodIn_r _ [7, 8, 9, 10, 2, 11, 12, 13, 6, 14, 18, 19, 20, 21, 22, 23, 24, 25, 26, 27, 28, 29, 30, 31, 32, 33, 34, 35, 36, 37, 38, 39, 40, 41, 42, 43, 44, 45] (by decide +kernel) (by decide +kernel)
set_option maxRecDepth 20000 in
theorem gX10_wants_X10_wanted : GoodIn wsX10_wants (wsV RX10 341 RX10 yX10_wanted wsX10_wanted) := goodIn_app (goodIn_of _ (by decide +kernel)) ggX10_wants_X10_wanted
set_option maxRecDepth 20000 in
theorem ggX10_wants_X10_bits : GoodIn wsX10_wants wsX10_bits := goodIn_r _ [17] (by decide +kernel) (by decide +kernel)
set_option maxRecDepth 20000 in
theorem gX10_wants_X10_bits : GoodIn wsX10_wants (va_wsS RX10 321 yX10_bits wsX10_bits) := goodIn_app (goodIn_of _ (by decide +kernel)) ggX10_wants_X10_bits
theorem dX10_wants_0 : decode cX10_wants 0 = .ok (.aload_n 0, 1) := by decide +kernel
theorem dX10_wants_1 : decode cX10_wants 1 = .ok (.invokevirtual 341, 3) := by decide +kernel
theorem dX10_wants_4 : decode cX10_wants 4 = .ok (.istore_n 2, 1) := by decide +kernel
theorem dX10_wants_5 : decode cX10_wants 5 = .ok (.aload_n 0, 1) := by decide +kernel
theorem dX10_wants_6 : decode cX10_wants 6 = .ok (.iload_n 2, 1) := by decide +kernel
theorem dX10_wants_7 : decode cX10_wants 7 = .ok (.iconst (-1), 1) := by decide +kernel
theorem dX10_wants_8 : decode cX10_wants 8 = .ok (.if_icmp .ne 7, 3) := by decide +kernel
theorem dX10_wants_11 : decode cX10_wants 11 = .ok (.iconst 1, 1) := by decide +kernel
theorem dX10_wants_12 : decode cX10_wants 12 = .ok (.goto 4, 3) := by decide +kernel
theorem dX10_wants_15 : decode cX10_wants 15 = .ok (.iconst 0, 1) := by decide +kernel
theorem dX10_wants_16 : decode cX10_wants 16 = .ok (.putfield 63, 3) := by decide +kernel
theorem dX10_wants_19 : decode cX10_wants 19 = .ok (.aload_n 0, 1) := by decide +kernel
theorem dX10_wants_20 : decode cX10_wants 20 = .ok (.getfield 63, 3) := by decide +kernel
theorem dX10_wants_23 : decode cX10_wants 23 = .ok (.ifCond .le 5, 3) := by decide +kernel
theorem dX10_wants_26 : decode cX10_wants 26 = .ok (.iconst 0, 1) := by decide +kernel
theorem dX10_wants_27 : decode cX10_wants 27 = .ok (.ireturn, 1) := by decide +kernel
theorem dX10_wants_28 : decode cX10_wants 28 = .ok (.iload_n 1, 1) := by decide +kernel
theorem dX10_wants_29 : decode cX10_wants 29 = .ok (.ifCond .ne 5, 3) := by decide +kernel
theorem dX10_wants_32 : decode cX10_wants 32 = .ok (.iload_n 2, 1) := by decide +kernel
theorem dX10_wants_33 : decode cX10_wants 33 = .ok (.ireturn, 1) := by decide +kernel
theorem dX10_wants_34 : decode cX10_wants 34 = .ok (.iconst (-1), 1) := by decide +kernel
theorem dX10_wants_35 : decode cX10_wants 35 = .ok (.istore_n 3, 1) := by decide +kernel
theorem dX10_wants_36 : decode cX10_wants 36 = .ok (.iconst 0, 1) := by decide +kernel
theorem dX10_wants_37 : decode cX10_wants 37 = .ok (.istore 4, 2) := by decide +kernel
theorem dX10_wants_39 : decode cX10_wants 39 = .ok (.iload 4, 2) := by decide +kernel
theorem dX10_wants_41 : decode cX10_wants 41 = .ok (.bipush 64, 2) := by decide +kernel
theorem dX10_wants_43 : decode cX10_wants 43 = .ok (.if_icmp .ge 39, 3) := by decide +kernel
theorem dX10_wants_46 : decode cX10_wants 46 = .ok (.aload_n 0, 1) := by decide +kernel
theorem dX10_wants_47 : decode cX10_wants 47 = .ok (.getfield 59, 3) := by decide +kernel
theorem dX10_wants_50 : decode cX10_wants 50 = .ok (.iload 4, 2) := by decide +kernel
theorem dX10_wants_52 : decode cX10_wants 52 = .ok (.baload, 1) := by decide +kernel
theorem dX10_wants_53 : decode cX10_wants 53 = .ok (.ifCond .eq 23, 3) := by decide +kernel
theorem dX10_wants_56 : decode cX10_wants 56 = .ok (.iload_n 3, 1) := by decide +kernel
theorem dX10_wants_57 : decode cX10_wants 57 = .ok (.iconst (-1), 1) := by decide +kernel
theorem dX10_wants_58 : decode cX10_wants 58 = .ok (.if_icmp .eq 15, 3) := by decide +kernel
theorem dX10_wants_61 : decode cX10_wants 61 = .ok (.iload 4, 2) := by decide +kernel
theorem dX10_wants_63 : decode cX10_wants 63 = .ok (.invokestatic 321, 3) := by decide +kernel
theorem dX10_wants_66 : decode cX10_wants 66 = .ok (.iload_n 3, 1) := by decide +kernel
theorem dX10_wants_67 : decode cX10_wants 67 = .ok (.invokestatic 321, 3) := by decide +kernel
theorem dX10_wants_70 : decode cX10_wants 70 = .ok (.if_icmp .ge 6, 3) := by decide +kernel
theorem dX10_wants_73 : decode cX10_wants 73 = .ok (.iload 4, 2) := by decide +kernel
theorem dX10_wants_75 : decode cX10_wants 75 = .ok (.istore_n 3, 1) := by decide +kernel
theorem dX10_wants_76 : decode cX10_wants 76 = .ok (.iinc 4 1, 3) := by decide +kernel
theorem dX10_wants_79 : decode cX10_wants 79 = .ok (.goto (-40), 3) := by decide +kernel
theorem dX10_wants_82 : decode cX10_wants 82 = .ok (.iload_n 3, 1) := by decide +kernel
theorem dX10_wants_83 : decode cX10_wants 83 = .ok (.ireturn, 1) := by decide +kernel
set_option maxRecDepth 20000 in
theorem ggX10_send_X10_wanted : GoodIn wsX10_send wsX10_wanted := goodIn_r _ [9, 10, 11, 3, 4, 12, 13, 14, 8, 15, 19, 20, 21, 22, 23, 24, 25, 26, 27, 28, 29, 30, 31, 32, 33, 34, 35, 36, 37, 38, 39, 40, 41, 42, 43, 44, 45, 46] (by decide +kernel) (by decide +kernel)
set_option maxRecDepth 20000 in
theorem gX10_send_X10_wanted : GoodIn wsX10_send (wsV RX10 341 RX10 yX10_wanted wsX10_wanted) := goodIn_app (goodIn_of _ (by decide +kernel)) ggX10_send_X10_wanted
set_option maxRecDepth 20000 in
theorem ggX10_send_X10_ofOne : GoodIn wsX10_send wsX10_ofOne := goodIn_r _ [15, 3, 19, 20, 21, 22, 23, 24, 25, 26, 27, 28, 29, 30, 31, 32, 33, 34, 35, 36, 37, 38, 39, 40, 41, 42, 43, 44, 45, 46] (by decide +kernel) (by decide +kernel)
set_option maxRecDepth 20000 in
theorem gX10_send_X10_ofOne : GoodIn wsX10_send (wsV RX10 246 RX10 yX10_ofOne wsX10_ofOne) := goodIn_app (goodIn_of _ (by decide +kernel)) ggX10_send_X10_ofOne
set_option maxRecDepth 20000 in
theorem ggX10_send_X10_greater : GoodIn wsX10_send wsX10_greater := goodIn_r _ [18] (by decide +kernel) (by decide +kernel)
set_option maxRecDepth 20000 in
theorem gX10_send_X10_greater : GoodIn wsX10_send (va_wsS RX10 249 yX10_greater wsX10_greater) := goodIn_app (goodIn_of _ (by decide +kernel)) ggX10_send_X10_greater
theorem dX10_send_0 : decode cX10_send 0 = .ok (.aload_n 0, 1) := by decide +kernel
theorem dX10_send_1 : decode cX10_send 1 = .ok (.invokevirtual 341, 3) := by decide +kernel
theorem dX10_send_4 : decode cX10_send 4 = .ok (.istore_n 1, 1) := by decide +kernel
theorem dX10_send_5 : decode cX10_send 5 = .ok (.aload_n 0, 1) := by decide +kernel
theorem dX10_send_6 : decode cX10_send 6 = .ok (.iload_n 1, 1) := by decide +kernel
theorem dX10_send_7 : decode cX10_send 7 = .ok (.iconst (-1), 1) := by decide +kernel
theorem dX10_send_8 : decode cX10_send 8 = .ok (.if_icmp .ne 7, 3) := by decide +kernel
theorem dX10_send_11 : decode cX10_send 11 = .ok (.iconst 1, 1) := by decide +kernel
theorem dX10_send_12 : decode cX10_send 12 = .ok (.goto 4, 3) := by decide +kernel
theorem dX10_send_15 : decode cX10_send 15 = .ok (.iconst 0, 1) := by decide +kernel
theorem dX10_send_16 : decode cX10_send 16 = .ok (.putfield 63, 3) := by decide +kernel
theorem dX10_send_19 : decode cX10_send 19 = .ok (.aload_n 0, 1) := by decide +kernel
theorem dX10_send_20 : decode cX10_send 20 = .ok (.getfield 63, 3) := by decide +kernel
theorem dX10_send_23 : decode cX10_send 23 = .ok (.ifCond .le 5, 3) := by decide +kernel
theorem dX10_send_26 : decode cX10_send 26 = .ok (.iconst 0, 1) := by decide +kernel
theorem dX10_send_27 : decode cX10_send 27 = .ok (.ireturn, 1) := by decide +kernel
theorem dX10_send_28 : decode cX10_send 28 = .ok (.iconst (-1), 1) := by decide +kernel
theorem dX10_send_29 : decode cX10_send 29 = .ok (.istore_n 2, 1) := by decide +kernel
theorem dX10_send_30 : decode cX10_send 30 = .ok (.ldc_w 344, 3) := by decide +kernel
theorem dX10_send_33 : decode cX10_send 33 = .ok (.istore_n 3, 1) := by decide +kernel
theorem dX10_send_34 : decode cX10_send 34 = .ok (.iconst 0, 1) := by decide +kernel
theorem dX10_send_35 : decode cX10_send 35 = .ok (.istore 4, 2) := by decide +kernel
theorem dX10_send_37 : decode cX10_send 37 = .ok (.iload 4, 2) := by decide +kernel
theorem dX10_send_39 : decode cX10_send 39 = .ok (.aload_n 0, 1) := by decide +kernel
theorem dX10_send_40 : decode cX10_send 40 = .ok (.getfield 7, 3) := by decide +kernel
theorem dX10_send_43 : decode cX10_send 43 = .ok (.iconst 4, 1) := by decide +kernel
theorem dX10_send_44 : decode cX10_send 44 = .ok (.iaload, 1) := by decide +kernel
theorem dX10_send_45 : decode cX10_send 45 = .ok (.if_icmp .ge 97, 3) := by decide +kernel
theorem dX10_send_48 : decode cX10_send 48 = .ok (.iload_n 1, 1) := by decide +kernel
theorem dX10_send_49 : decode cX10_send 49 = .ok (.iconst 1, 1) := by decide +kernel
theorem dX10_send_50 : decode cX10_send 50 = .ok (.if_icmp .le 92, 3) := by decide +kernel
theorem dX10_send_53 : decode cX10_send 53 = .ok (.iconst 0, 1) := by decide +kernel
theorem dX10_send_54 : decode cX10_send 54 = .ok (.istore 5, 2) := by decide +kernel
theorem dX10_send_56 : decode cX10_send 56 = .ok (.iconst 0, 1) := by decide +kernel
theorem dX10_send_57 : decode cX10_send 57 = .ok (.istore 6, 2) := by decide +kernel
theorem dX10_send_59 : decode cX10_send 59 = .ok (.iload 6, 2) := by decide +kernel
theorem dX10_send_61 : decode cX10_send 61 = .ok (.bipush 64, 2) := by decide +kernel
theorem dX10_send_63 : decode cX10_send 63 = .ok (.if_icmp .ge 44, 3) := by decide +kernel
theorem dX10_send_66 : decode cX10_send 66 = .ok (.iload 5, 2) := by decide +kernel
theorem dX10_send_68 : decode cX10_send 68 = .ok (.aload_n 0, 1) := by decide +kernel
theorem dX10_send_69 : decode cX10_send 69 = .ok (.getfield 59, 3) := by decide +kernel
theorem dX10_send_72 : decode cX10_send 72 = .ok (.iload 6, 2) := by decide +kernel
theorem dX10_send_74 : decode cX10_send 74 = .ok (.baload, 1) := by decide +kernel
theorem dX10_send_75 : decode cX10_send 75 = .ok (.ifCond .eq 22, 3) := by decide +kernel
theorem dX10_send_78 : decode cX10_send 78 = .ok (.iload 6, 2) := by decide +kernel
theorem dX10_send_80 : decode cX10_send 80 = .ok (.aload_n 0, 1) := by decide +kernel
theorem dX10_send_81 : decode cX10_send 81 = .ok (.iload 4, 2) := by decide +kernel
theorem dX10_send_83 : decode cX10_send 83 = .ok (.iconst 4, 1) := by decide +kernel
theorem dX10_send_84 : decode cX10_send 84 = .ok (.invokevirtual 246, 3) := by decide +kernel
theorem dX10_send_87 : decode cX10_send 87 = .ok (.iconst (-1), 1) := by decide +kernel
theorem dX10_send_88 : decode cX10_send 88 = .ok (.ixor, 1) := by decide +kernel
theorem dX10_send_89 : decode cX10_send 89 = .ok (.iand, 1) := by decide +kernel
theorem dX10_send_90 : decode cX10_send 90 = .ok (.ifCond .ne 7, 3) := by decide +kernel
theorem dX10_send_93 : decode cX10_send 93 = .ok (.iconst 1, 1) := by decide +kernel
theorem dX10_send_94 : decode cX10_send 94 = .ok (.goto 4, 3) := by decide +kernel
theorem dX10_send_97 : decode cX10_send 97 = .ok (.iconst 0, 1) := by decide +kernel
theorem dX10_send_98 : decode cX10_send 98 = .ok (.iadd, 1) := by decide +kernel
theorem dX10_send_99 : decode cX10_send 99 = .ok (.istore 5, 2) := by decide +kernel
theorem dX10_send_101 : decode cX10_send 101 = .ok (.iinc 6 1, 3) := by decide +kernel
theorem dX10_send_104 : decode cX10_send 104 = .ok (.goto (-45), 3) := by decide +kernel
theorem dX10_send_107 : decode cX10_send 107 = .ok (.iload 5, 2) := by decide +kernel
theorem dX10_send_109 : decode cX10_send 109 = .ok (.iload_n 1, 1) := by decide +kernel
theorem dX10_send_110 : decode cX10_send 110 = .ok (.iload 5, 2) := by decide +kernel
theorem dX10_send_112 : decode cX10_send 112 = .ok (.isub, 1) := by decide +kernel
theorem dX10_send_113 : decode cX10_send 113 = .ok (.invokestatic 249, 3) := by decide +kernel
theorem dX10_send_116 : decode cX10_send 116 = .ok (.iload_n 3, 1) := by decide +kernel
theorem dX10_send_117 : decode cX10_send 117 = .ok (.if_icmp .lt 6, 3) := by decide +kernel
theorem dX10_send_120 : decode cX10_send 120 = .ok (.goto 16, 3) := by decide +kernel
theorem dX10_send_123 : decode cX10_send 123 = .ok (.iload 5, 2) := by decide +kernel
theorem dX10_send_125 : decode cX10_send 125 = .ok (.iload_n 1, 1) := by decide +kernel
theorem dX10_send_126 : decode cX10_send 126 = .ok (.iload 5, 2) := by decide +kernel
theorem dX10_send_128 : decode cX10_send 128 = .ok (.isub, 1) := by decide +kernel
theorem dX10_send_129 : decode cX10_send 129 = .ok (.invokestatic 249, 3) := by decide +kernel
theorem dX10_send_132 : decode cX10_send 132 = .ok (.istore_n 3, 1) := by decide +kernel
theorem dX10_send_133 : decode cX10_send 133 = .ok (.iload 4, 2) := by decide +kernel
theorem dX10_send_135 : decode cX10_send 135 = .ok (.istore_n 2, 1) := by decide +kernel
theorem dX10_send_136 : decode cX10_send 136 = .ok (.iinc 4 1, 3) := by decide +kernel
theorem dX10_send_139 : decode cX10_send 139 = .ok (.goto (-102), 3) := by decide +kernel
theorem dX10_send_142 : decode cX10_send 142 = .ok (.iload_n 2, 1) := by decide +kernel
theorem dX10_send_143 : decode cX10_send 143 = .ok (.ireturn, 1) := by decide +kernel
set_option maxRecDepth 20000 in
theorem ggX10_about_X10_isVisitor : GoodIn wsX10_about wsX10_isVisitor := goodIn_r _ [7, 2, 8, 9, 6, 10, 176, 177, 178, 179, 180, 181, 182, 183, 184, 185, 186, 187, 188, 189, 190, 191, 192, 193, 194, 195, 196, 197, 198, 199, 200, 201, 202, 203] (by decide +kernel) (by decide +kernel)
set_option maxRecDepth 20000 in
theorem gX10_about_X10_isVisitor : GoodIn wsX10_about (wsV RX10 300 RX10 yX10_isVisitor wsX10_isVisitor) := goodIn_app (goodIn_of _ (by decide +kernel)) ggX10_about_X10_isVisitor
set_option maxRecDepth 20000 in
theorem ggX10_about_X10_isIn : GoodIn wsX10_about wsX10_isIn := goodIn_r _ [10] (by decide +kernel) (by decide +kernel)
set_option maxRecDepth 20000 in
theorem gX10_about_X10_isIn : GoodIn wsX10_about (va_wsS RX10 66 yX10_isIn wsX10_isIn) := goodIn_app (goodIn_of _ (by decide +kernel)) ggX10_about_X10_isIn
set_option maxRecDepth 20000 in
theorem ggX10_about_X10_likesOne : GoodIn wsX10_about wsX10_likesOne := goodIn_r _ [14, 2, 15, 16, 17, 18, 19, 20, 21, 22, 23, 24, 25, 26, 6, 27, 28, 29, 30, 31, 32, 33, 34, 35, 36, 37, 38, 39, 40, 41, 42, 43, 44, 45, 46, 47, 48, 49, 50, 51, 52, 53, 54, 55, 56, 8, 9, 10, 57, 58, 59, 60, 61, 62, 63, 64, 65, 66, 67, 68, 69, 70, 71, 72, 73, 74, 75, 76, 77, 78, 79, 80, 81, 82, 83, 84, 85, 86, 87, 88, 89, 90, 91, 92, 93, 94, 95, 96, 97, 98, 99, 100, 101, 102, 103, 104, 105, 106, 107, 108, 109, 110, 111, 112, 113, 114, 115, 116, 117, 118, 119, 120, 121, 122, 123, 124, 125, 126, 127, 128, 129, 130, 131, 132, 133, 134, 135, 136, 137, 138, 139, 140, 141, 142, 143, 144, 145, 146, 147, 148, 149, 150, 151, 152, 153, 154, 155, 156, 157, 158, 159, 160, 161, 162, 163, 164, 165, 166, 167, 168, 169, 170, 171, 176, 177, 178, 179, 180, 181, 182, 183, 184, 185, 186, 187, 188, 189, 190, 191, 192, 193, 194, 195, 196, 197, 198, 199, 200, 201, 202, 203] (by decide +kernel) (by decide +kernel)
set_option maxRecDepth 20000 in
theorem gX10_about_X10_likesOne : GoodIn wsX10_about (wsV RX10 252 RX10 yX10_likesOne wsX10_likesOne) := goodIn_app (goodIn_of _ (by decide +kernel)) ggX10_about_X10_likesOne
set_option maxRecDepth 20000 in
theorem ggX10_about_X10_rings : GoodIn wsX10_about wsX10_rings := goodIn_r _ [175, 28, 29, 30, 6, 31, 2, 176, 177, 178, 179, 180, 181, 182, 183, 184, 185, 186, 187, 188, 189, 190, 191, 192, 193, 194, 195, 196, 197, 198, 199, 200, 201, 202, 203] (by decide +kernel) (by decide +kernel)
set_option maxRecDepth 20000 in
theorem gX10_about_X10_rings : GoodIn wsX10_about (wsV RX10 256 RX10 yX10_rings wsX10_rings) := goodIn_app (goodIn_of _ (by decide +kernel)) ggX10_about_X10_rings
theorem dX10_about_0 : decode cX10_about 0 = .ok (.aload_n 0, 1) := by decide +kernel
theorem dX10_about_1 : decode cX10_about 1 = .ok (.aload_n 0, 1) := by decide +kernel
theorem dX10_about_2 : decode cX10_about 2 = .ok (.iload_n 1, 1) := by decide +kernel
theorem dX10_about_3 : decode cX10_about 3 = .ok (.invokevirtual 300, 3) := by decide +kernel
theorem dX10_about_6 : decode cX10_about 6 = .ok (.ifCond .ne 7, 3) := by decide +kernel
theorem dX10_about_9 : decode cX10_about 9 = .ok (.iconst 1, 1) := by decide +kernel
theorem dX10_about_10 : decode cX10_about 10 = .ok (.goto 17, 3) := by decide +kernel
theorem dX10_about_13 : decode cX10_about 13 = .ok (.iload_n 3, 1) := by decide +kernel
theorem dX10_about_14 : decode cX10_about 14 = .ok (.iconst 0, 1) := by decide +kernel
theorem dX10_about_15 : decode cX10_about 15 = .ok (.iconst 2, 1) := by decide +kernel
theorem dX10_about_16 : decode cX10_about 16 = .ok (.invokestatic 66, 3) := by decide +kernel
theorem dX10_about_19 : decode cX10_about 19 = .ok (.ifCond .ne 7, 3) := by decide +kernel
theorem dX10_about_22 : decode cX10_about 22 = .ok (.iconst 2, 1) := by decide +kernel
theorem dX10_about_23 : decode cX10_about 23 = .ok (.goto 4, 3) := by decide +kernel
theorem dX10_about_26 : decode cX10_about 26 = .ok (.iconst 0, 1) := by decide +kernel
theorem dX10_about_27 : decode cX10_about 27 = .ok (.putfield 63, 3) := by decide +kernel
theorem dX10_about_30 : decode cX10_about 30 = .ok (.aload_n 0, 1) := by decide +kernel
theorem dX10_about_31 : decode cX10_about 31 = .ok (.getfield 63, 3) := by decide +kernel
theorem dX10_about_34 : decode cX10_about 34 = .ok (.ifCond .le 5, 3) := by decide +kernel
theorem dX10_about_37 : decode cX10_about 37 = .ok (.iconst 0, 1) := by decide +kernel
theorem dX10_about_38 : decode cX10_about 38 = .ok (.ireturn, 1) := by decide +kernel
theorem dX10_about_39 : decode cX10_about 39 = .ok (.iload_n 2, 1) := by decide +kernel
theorem dX10_about_40 : decode cX10_about 40 = .ok (.iconst 1, 1) := by decide +kernel
theorem dX10_about_41 : decode cX10_about 41 = .ok (.aload_n 0, 1) := by decide +kernel
theorem dX10_about_42 : decode cX10_about 42 = .ok (.getfield 7, 3) := by decide +kernel
theorem dX10_about_45 : decode cX10_about 45 = .ok (.iconst 3, 1) := by decide +kernel
theorem dX10_about_46 : decode cX10_about 46 = .ok (.iaload, 1) := by decide +kernel
theorem dX10_about_47 : decode cX10_about 47 = .ok (.ishl, 1) := by decide +kernel
theorem dX10_about_48 : decode cX10_about 48 = .ok (.iconst 1, 1) := by decide +kernel
theorem dX10_about_49 : decode cX10_about 49 = .ok (.isub, 1) := by decide +kernel
theorem dX10_about_50 : decode cX10_about 50 = .ok (.iand, 1) := by decide +kernel
theorem dX10_about_51 : decode cX10_about 51 = .ok (.istore 4, 2) := by decide +kernel
theorem dX10_about_53 : decode cX10_about 53 = .ok (.iconst 0, 1) := by decide +kernel
theorem dX10_about_54 : decode cX10_about 54 = .ok (.istore 5, 2) := by decide +kernel
theorem dX10_about_56 : decode cX10_about 56 = .ok (.bipush 63, 2) := by decide +kernel
theorem dX10_about_58 : decode cX10_about 58 = .ok (.istore 6, 2) := by decide +kernel
theorem dX10_about_60 : decode cX10_about 60 = .ok (.iconst 0, 1) := by decide +kernel
theorem dX10_about_61 : decode cX10_about 61 = .ok (.istore 7, 2) := by decide +kernel
theorem dX10_about_63 : decode cX10_about 63 = .ok (.iconst 0, 1) := by decide +kernel
theorem dX10_about_64 : decode cX10_about 64 = .ok (.istore 8, 2) := by decide +kernel
theorem dX10_about_66 : decode cX10_about 66 = .ok (.iload 8, 2) := by decide +kernel
theorem dX10_about_68 : decode cX10_about 68 = .ok (.bipush 64, 2) := by decide +kernel
theorem dX10_about_70 : decode cX10_about 70 = .ok (.if_icmp .ge 90, 3) := by decide +kernel
theorem dX10_about_73 : decode cX10_about 73 = .ok (.iconst 0, 1) := by decide +kernel
theorem dX10_about_74 : decode cX10_about 74 = .ok (.istore 9, 2) := by decide +kernel
theorem dX10_about_76 : decode cX10_about 76 = .ok (.iconst 0, 1) := by decide +kernel
theorem dX10_about_77 : decode cX10_about 77 = .ok (.istore 10, 2) := by decide +kernel
theorem dX10_about_79 : decode cX10_about 79 = .ok (.iload 10, 2) := by decide +kernel
theorem dX10_about_81 : decode cX10_about 81 = .ok (.aload_n 0, 1) := by decide +kernel
theorem dX10_about_82 : decode cX10_about 82 = .ok (.getfield 7, 3) := by decide +kernel
theorem dX10_about_85 : decode cX10_about 85 = .ok (.iconst 3, 1) := by decide +kernel
theorem dX10_about_86 : decode cX10_about 86 = .ok (.iaload, 1) := by decide +kernel
theorem dX10_about_87 : decode cX10_about 87 = .ok (.if_icmp .ge 40, 3) := by decide +kernel
theorem dX10_about_90 : decode cX10_about 90 = .ok (.iload 9, 2) := by decide +kernel
theorem dX10_about_92 : decode cX10_about 92 = .ok (.aload_n 0, 1) := by decide +kernel
theorem dX10_about_93 : decode cX10_about 93 = .ok (.iload 10, 2) := by decide +kernel
theorem dX10_about_95 : decode cX10_about 95 = .ok (.aload_n 0, 1) := by decide +kernel
theorem dX10_about_96 : decode cX10_about 96 = .ok (.iload 10, 2) := by decide +kernel
theorem dX10_about_98 : decode cX10_about 98 = .ok (.iload_n 1, 1) := by decide +kernel
theorem dX10_about_99 : decode cX10_about 99 = .ok (.iload 8, 2) := by decide +kernel
theorem dX10_about_101 : decode cX10_about 101 = .ok (.invokevirtual 252, 3) := by decide +kernel
theorem dX10_about_104 : decode cX10_about 104 = .ok (.invokevirtual 256, 3) := by decide +kernel
theorem dX10_about_107 : decode cX10_about 107 = .ok (.ifCond .eq 10, 3) := by decide +kernel
theorem dX10_about_110 : decode cX10_about 110 = .ok (.iconst 1, 1) := by decide +kernel
theorem dX10_about_111 : decode cX10_about 111 = .ok (.iload 10, 2) := by decide +kernel
theorem dX10_about_113 : decode cX10_about 113 = .ok (.ishl, 1) := by decide +kernel
theorem dX10_about_114 : decode cX10_about 114 = .ok (.goto 4, 3) := by decide +kernel
theorem dX10_about_117 : decode cX10_about 117 = .ok (.iconst 0, 1) := by decide +kernel
theorem dX10_about_118 : decode cX10_about 118 = .ok (.ior, 1) := by decide +kernel
theorem dX10_about_119 : decode cX10_about 119 = .ok (.istore 9, 2) := by decide +kernel
theorem dX10_about_121 : decode cX10_about 121 = .ok (.iinc 10 1, 3) := by decide +kernel
theorem dX10_about_124 : decode cX10_about 124 = .ok (.goto (-45), 3) := by decide +kernel
theorem dX10_about_127 : decode cX10_about 127 = .ok (.iload 9, 2) := by decide +kernel
theorem dX10_about_129 : decode cX10_about 129 = .ok (.iload 4, 2) := by decide +kernel
theorem dX10_about_131 : decode cX10_about 131 = .ok (.if_icmp .eq 6, 3) := by decide +kernel
theorem dX10_about_134 : decode cX10_about 134 = .ok (.goto 20, 3) := by decide +kernel
theorem dX10_about_137 : decode cX10_about 137 = .ok (.iinc 5 1, 3) := by decide +kernel
theorem dX10_about_140 : decode cX10_about 140 = .ok (.iload 6, 2) := by decide +kernel
theorem dX10_about_142 : decode cX10_about 142 = .ok (.iload 8, 2) := by decide +kernel
theorem dX10_about_144 : decode cX10_about 144 = .ok (.iand, 1) := by decide +kernel
theorem dX10_about_145 : decode cX10_about 145 = .ok (.istore 6, 2) := by decide +kernel
theorem dX10_about_147 : decode cX10_about 147 = .ok (.iload 7, 2) := by decide +kernel
theorem dX10_about_149 : decode cX10_about 149 = .ok (.iload 8, 2) := by decide +kernel
theorem dX10_about_151 : decode cX10_about 151 = .ok (.ior, 1) := by decide +kernel
theorem dX10_about_152 : decode cX10_about 152 = .ok (.istore 7, 2) := by decide +kernel
theorem dX10_about_154 : decode cX10_about 154 = .ok (.iinc 8 1, 3) := by decide +kernel
theorem dX10_about_157 : decode cX10_about 157 = .ok (.goto (-91), 3) := by decide +kernel
theorem dX10_about_160 : decode cX10_about 160 = .ok (.iload_n 3, 1) := by decide +kernel
theorem dX10_about_161 : decode cX10_about 161 = .ok (.ifCond .ne 8, 3) := by decide +kernel
theorem dX10_about_164 : decode cX10_about 164 = .ok (.iload 5, 2) := by decide +kernel
theorem dX10_about_166 : decode cX10_about 166 = .ok (.goto 24, 3) := by decide +kernel
theorem dX10_about_169 : decode cX10_about 169 = .ok (.iload 5, 2) := by decide +kernel
theorem dX10_about_171 : decode cX10_about 171 = .ok (.ifCond .ne 7, 3) := by decide +kernel
theorem dX10_about_174 : decode cX10_about 174 = .ok (.iconst 0, 1) := by decide +kernel
theorem dX10_about_175 : decode cX10_about 175 = .ok (.goto 15, 3) := by decide +kernel
theorem dX10_about_178 : decode cX10_about 178 = .ok (.iload_n 3, 1) := by decide +kernel
theorem dX10_about_179 : decode cX10_about 179 = .ok (.iconst 1, 1) := by decide +kernel
theorem dX10_about_180 : decode cX10_about 180 = .ok (.if_icmp .ne 8, 3) := by decide +kernel
theorem dX10_about_183 : decode cX10_about 183 = .ok (.iload 6, 2) := by decide +kernel
theorem dX10_about_185 : decode cX10_about 185 = .ok (.goto 5, 3) := by decide +kernel
theorem dX10_about_188 : decode cX10_about 188 = .ok (.iload 7, 2) := by decide +kernel
theorem dX10_about_190 : decode cX10_about 190 = .ok (.ireturn, 1) := by decide +kernel
set_option maxRecDepth 20000 in
theorem ggX10_ahead_X10_isThing : GoodIn wsX10_ahead wsX10_isThing := goodIn_r _ [6, 7, 8, 9, 5, 10, 225, 226, 227, 228, 229, 230, 231, 232, 233, 234, 235, 236, 237, 238, 239, 240, 241, 242, 243, 244, 245, 246, 247, 248, 249, 250, 251, 252] (by decide +kernel) (by decide +kernel)
set_option maxRecDepth 20000 in
theorem gX10_ahead_X10_isThing : GoodIn wsX10_ahead (wsV RX10 285 RX10 yX10_isThing wsX10_isThing) := goodIn_app (goodIn_of _ (by decide +kernel)) ggX10_ahead_X10_isThing
set_option maxRecDepth 20000 in
theorem ggX10_ahead_X10_isIn : GoodIn wsX10_ahead wsX10_isIn := goodIn_r _ [10] (by decide +kernel) (by decide +kernel)
set_option maxRecDepth 20000 in
theorem gX10_ahead_X10_isIn : GoodIn wsX10_ahead (va_wsS RX10 66 yX10_isIn wsX10_isIn) := goodIn_app (goodIn_of _ (by decide +kernel)) ggX10_ahead_X10_isIn
set_option maxRecDepth 20000 in
theorem ggX10_ahead_X10_putsAside : GoodIn wsX10_ahead wsX10_putsAside := goodIn_r _ [14, 15, 7, 225, 226, 227, 228, 229, 230, 231, 232, 233, 234, 235, 236, 237, 238, 239, 240, 241, 242, 243, 244, 245, 246, 247, 248, 249, 250, 251, 252] (by decide +kernel) (by decide +kernel)
set_option maxRecDepth 20000 in
theorem gX10_ahead_X10_putsAside : GoodIn wsX10_ahead (wsV RX10 171 RX10 yX10_putsAside wsX10_putsAside) := goodIn_app (goodIn_of _ (by decide +kernel)) ggX10_ahead_X10_putsAside
set_option maxRecDepth 20000 in
theorem ggX10_ahead_X10_goesBy : GoodIn wsX10_ahead wsX10_goesBy := goodIn_r _ [19, 7, 20, 21, 22, 23, 24, 25, 26, 5, 27, 28, 29, 30, 31, 32, 33, 34, 35, 36, 37, 38, 39, 40, 41, 42, 43, 44, 45, 46, 47, 48, 49, 50, 51, 52, 53, 54, 55, 56, 57, 58, 59, 60, 61, 62, 63, 64, 65, 66, 67, 68, 69, 70, 71, 72, 73, 8, 9, 10, 74, 75, 76, 77, 78, 79, 80, 81, 82, 83, 84, 85, 86, 87, 88, 89, 90, 91, 92, 93, 94, 95, 96, 97, 98, 99, 100, 101, 102, 103, 104, 105, 106, 107, 108, 109, 110, 111, 112, 113, 114, 115, 116, 117, 118, 119, 120, 121, 122, 123, 124, 125, 126, 127, 128, 129, 130, 131, 132, 133, 134, 135, 136, 137, 138, 139, 140, 141, 142, 143, 144, 145, 146, 147, 148, 149, 150, 151, 152, 153, 154, 155, 156, 157, 158, 159, 160, 161, 162, 163, 164, 165, 166, 167, 168, 169, 170, 171, 172, 173, 174, 175, 176, 177, 178, 179, 180, 181, 182, 183, 184, 185, 186, 187, 188, 189, 190, 191, 192, 193, 194, 195, 196, 197, 198, 199, 200, 201, 202, 203, 204, 205, 206, 207, 208, 209, 210, 211, 212, 213, 214, 215, 216, 225, 226, 227, 228, 229, 230, 231, 232, 233, 234, 235, 236, 237, 238, 239, 240, 241, 242, 243, 244, 245, 246, 247, 248, 249, 250, 251, 252] (by decide +kernel) (by decide +kernel)
set_option maxRecDepth 20000 in
theorem gX10_ahead_X10_goesBy : GoodIn wsX10_ahead (wsV RX10 282 RX10 yX10_goesBy wsX10_goesBy) := goodIn_app (goodIn_of _ (by decide +kernel)) ggX10_ahead_X10_goesBy
set_option maxRecDepth 20000 in
theorem ggX10_ahead_X10_of : GoodIn wsX10_ahead wsX10_of := goodIn_r _ [48, 7, 225, 226, 227, 228, 229, 230, 231, 232, 233, 234, 235, 236, 237, 238, 239, 240, 241, 242, 243, 244, 245, 246, 247, 248, 249, 250, 251, 252] (by decide +kernel) (by decide +kernel)
set_option maxRecDepth 20000 in
theorem gX10_ahead_X10_of : GoodIn wsX10_ahead (wsV RX10 70 RX10 yX10_of wsX10_of) := goodIn_app (goodIn_of _ (by decide +kernel)) ggX10_ahead_X10_of
set_option maxRecDepth 20000 in
theorem ggX10_ahead_X10_hadBy : GoodIn wsX10_ahead wsX10_hadBy := goodIn_r _ [220, 7, 20, 225, 226, 227, 228, 229, 230, 231, 232, 233, 234, 235, 236, 237, 238, 239, 240, 241, 242, 243, 244, 245, 246, 247, 248, 249, 250, 251, 252] (by decide +kernel) (by decide +kernel)
set_option maxRecDepth 20000 in
theorem gX10_ahead_X10_hadBy : GoodIn wsX10_ahead (wsV RX10 294 RX10 yX10_hadBy wsX10_hadBy) := goodIn_app (goodIn_of _ (by decide +kernel)) ggX10_ahead_X10_hadBy
set_option maxRecDepth 20000 in
theorem ggX10_ahead_X10_comesBack : GoodIn wsX10_ahead wsX10_comesBack := goodIn_r _ [224, 7, 15, 225, 226, 227, 228, 229, 230, 231, 232, 233, 234, 235, 236, 237, 238, 239, 240, 241, 242, 243, 244, 245, 246, 247, 248, 249, 250, 251, 252] (by decide +kernel) (by decide +kernel)
set_option maxRecDepth 20000 in
theorem gX10_ahead_X10_comesBack : GoodIn wsX10_ahead (wsV RX10 181 RX10 yX10_comesBack wsX10_comesBack) := goodIn_app (goodIn_of _ (by decide +kernel)) ggX10_ahead_X10_comesBack
