theorem dX9_end_16 : decode cX9_end 16 = .ok (.putfield 82, 3) := by decide +kernel
theorem dX9_end_19 : decode cX9_end 19 = .ok (.iconst 1, 1) := by decide +kernel
theorem dX9_end_20 : decode cX9_end 20 = .ok (.ireturn, 1) := by decide +kernel
theorem dX9_useTapeUp_0 : decode cX9_useTapeUp 0 = .ok (.aload_n 0, 1) := by decide +kernel
theorem dX9_useTapeUp_1 : decode cX9_useTapeUp 1 = .ok (.getfield 82, 3) := by decide +kernel
theorem dX9_useTapeUp_4 : decode cX9_useTapeUp 4 = .ok (.istore_n 1, 1) := by decide +kernel
theorem dX9_useTapeUp_5 : decode cX9_useTapeUp 5 = .ok (.aload_n 0, 1) := by decide +kernel
theorem dX9_useTapeUp_6 : decode cX9_useTapeUp 6 = .ok (.iconst 0, 1) := by decide +kernel
theorem dX9_useTapeUp_7 : decode cX9_useTapeUp 7 = .ok (.putfield 82, 3) := by decide +kernel
theorem dX9_useTapeUp_10 : decode cX9_useTapeUp 10 = .ok (.iload_n 1, 1) := by decide +kernel
theorem dX9_useTapeUp_11 : decode cX9_useTapeUp 11 = .ok (.ireturn, 1) := by decide +kernel
theorem dX9_hall_0 : decode cX9_hall 0 = .ok (.aload_n 0, 1) := by decide +kernel
theorem dX9_hall_1 : decode cX9_hall 1 = .ok (.getfield 24, 3) := by decide +kernel
theorem dX9_hall_4 : decode cX9_hall 4 = .ok (.aload_n 0, 1) := by decide +kernel
theorem dX9_hall_5 : decode cX9_hall 5 = .ok (.getfield 20, 3) := by decide +kernel
theorem dX9_hall_8 : decode cX9_hall 8 = .ok (.invokevirtual 93, 3) := by decide +kernel
theorem dX9_hall_11 : decode cX9_hall 11 = .ok (.aload_n 0, 1) := by decide +kernel
theorem dX9_hall_12 : decode cX9_hall 12 = .ok (.getfield 71, 3) := by decide +kernel
theorem dX9_hall_15 : decode cX9_hall 15 = .ok (.aload_n 0, 1) := by decide +kernel
theorem dX9_hall_16 : decode cX9_hall 16 = .ok (.getfield 24, 3) := by decide +kernel
theorem dX9_hall_19 : decode cX9_hall 19 = .ok (.aload_n 0, 1) := by decide +kernel
theorem dX9_hall_20 : decode cX9_hall 20 = .ok (.getfield 9, 3) := by decide +kernel
theorem dX9_hall_23 : decode cX9_hall 23 = .ok (.aload_n 0, 1) := by decide +kernel
theorem dX9_hall_24 : decode cX9_hall 24 = .ok (.invokevirtual 97, 3) := by decide +kernel
theorem dX9_hall_27 : decode cX9_hall 27 = .ok (.invokevirtual 101, 3) := by decide +kernel
theorem dX9_hall_30 : decode cX9_hall 30 = .ok (.istore_n 1, 1) := by decide +kernel
theorem dX9_hall_31 : decode cX9_hall 31 = .ok (.aload_n 0, 1) := by decide +kernel
theorem dX9_hall_32 : decode cX9_hall 32 = .ok (.aload_n 0, 1) := by decide +kernel
theorem dX9_hall_33 : decode cX9_hall 33 = .ok (.getfield 71, 3) := by decide +kernel
theorem dX9_hall_36 : decode cX9_hall 36 = .ok (.getfield 105, 3) := by decide +kernel
theorem dX9_hall_39 : decode cX9_hall 39 = .ok (.getfield 109, 3) := by decide +kernel
theorem dX9_hall_42 : decode cX9_hall 42 = .ok (.putfield 13, 3) := by decide +kernel
theorem dX9_hall_45 : decode cX9_hall 45 = .ok (.iload_n 1, 1) := by decide +kernel
theorem dX9_hall_46 : decode cX9_hall 46 = .ok (.ifCond .ne 13, 3) := by decide +kernel
theorem dX9_hall_49 : decode cX9_hall 49 = .ok (.new 114, 3) := by decide +kernel
theorem dX9_hall_52 : decode cX9_hall 52 = .ok (.dup, 1) := by decide +kernel
theorem dX9_hall_53 : decode cX9_hall 53 = .ok (.ldc 116, 2) := by decide +kernel
theorem dX9_hall_55 : decode cX9_hall 55 = .ok (.invokespecial 118, 3) := by decide +kernel
theorem dX9_hall_58 : decode cX9_hall 58 = .ok (.athrow, 1) := by decide +kernel
theorem dX9_hall_59 : decode cX9_hall 59 = .ok (.aload_n 0, 1) := by decide +kernel
theorem dX9_hall_60 : decode cX9_hall 60 = .ok (.getfield 20, 3) := by decide +kernel
theorem dX9_hall_63 : decode cX9_hall 63 = .ok (.getfield 121, 3) := by decide +kernel
theorem dX9_hall_66 : decode cX9_hall 66 = .ok (.bipush 12, 2) := by decide +kernel
theorem dX9_hall_68 : decode cX9_hall 68 = .ok (.if_icmp .lt 13, 3) := by decide +kernel
theorem dX9_hall_71 : decode cX9_hall 71 = .ok (.new 124, 3) := by decide +kernel
theorem dX9_hall_74 : decode cX9_hall 74 = .ok (.dup, 1) := by decide +kernel
theorem dX9_hall_75 : decode cX9_hall 75 = .ok (.ldc 126, 2) := by decide +kernel
theorem dX9_hall_77 : decode cX9_hall 77 = .ok (.invokespecial 128, 3) := by decide +kernel
theorem dX9_hall_80 : decode cX9_hall 80 = .ok (.athrow, 1) := by decide +kernel
theorem dX9_hall_81 : decode cX9_hall 81 = .ok (.aload_n 0, 1) := by decide +kernel
theorem dX9_hall_82 : decode cX9_hall 82 = .ok (.getfield 20, 3) := by decide +kernel
theorem dX9_hall_85 : decode cX9_hall 85 = .ok (.astore_n 2, 1) := by decide +kernel
theorem dX9_hall_86 : decode cX9_hall 86 = .ok (.aload_n 0, 1) := by decide +kernel
theorem dX9_hall_87 : decode cX9_hall 87 = .ok (.aload_n 0, 1) := by decide +kernel
theorem dX9_hall_88 : decode cX9_hall 88 = .ok (.getfield 24, 3) := by decide +kernel
theorem dX9_hall_91 : decode cX9_hall 91 = .ok (.putfield 20, 3) := by decide +kernel
theorem dX9_hall_94 : decode cX9_hall 94 = .ok (.aload_n 0, 1) := by decide +kernel
theorem dX9_hall_95 : decode cX9_hall 95 = .ok (.aload_n 2, 1) := by decide +kernel
theorem dX9_hall_96 : decode cX9_hall 96 = .ok (.putfield 24, 3) := by decide +kernel
theorem dX9_hall_99 : decode cX9_hall 99 = .ok (.aload_n 0, 1) := by decide +kernel
theorem dX9_hall_100 : decode cX9_hall 100 = .ok (.getfield 20, 3) := by decide +kernel
theorem dX9_hall_103 : decode cX9_hall 103 = .ok (.dup, 1) := by decide +kernel
theorem dX9_hall_104 : decode cX9_hall 104 = .ok (.getfield 121, 3) := by decide +kernel
theorem dX9_hall_107 : decode cX9_hall 107 = .ok (.iconst 1, 1) := by decide +kernel
theorem dX9_hall_108 : decode cX9_hall 108 = .ok (.iadd, 1) := by decide +kernel
theorem dX9_hall_109 : decode cX9_hall 109 = .ok (.putfield 121, 3) := by decide +kernel
theorem dX9_hall_112 : decode cX9_hall 112 = .ok (.aload_n 0, 1) := by decide +kernel
theorem dX9_hall_113 : decode cX9_hall 113 = .ok (.iconst 0, 1) := by decide +kernel
theorem dX9_hall_114 : decode cX9_hall 114 = .ok (.putfield 129, 3) := by decide +kernel
theorem dX9_hall_117 : decode cX9_hall 117 = .ok (.aload_n 0, 1) := by decide +kernel
theorem dX9_hall_118 : decode cX9_hall 118 = .ok (.getfield 20, 3) := by decide +kernel
theorem dX9_hall_121 : decode cX9_hall 121 = .ok (.getfield 121, 3) := by decide +kernel
theorem dX9_hall_124 : decode cX9_hall 124 = .ok (.ireturn, 1) := by decide +kernel
theorem dX9_law_0 : decode cX9_law 0 = .ok (.aload_n 0, 1) := by decide +kernel
theorem dX9_law_1 : decode cX9_law 1 = .ok (.getfield 78, 3) := by decide +kernel
theorem dX9_law_4 : decode cX9_law 4 = .ok (.aload_n 0, 1) := by decide +kernel
theorem dX9_law_5 : decode cX9_law 5 = .ok (.getfield 34, 3) := by decide +kernel
theorem dX9_law_8 : decode cX9_law 8 = .ok (.aload_n 0, 1) := by decide +kernel
theorem dX9_law_9 : decode cX9_law 9 = .ok (.getfield 9, 3) := by decide +kernel
theorem dX9_law_12 : decode cX9_law 12 = .ok (.aload_n 0, 1) := by decide +kernel
theorem dX9_law_13 : decode cX9_law 13 = .ok (.invokevirtual 97, 3) := by decide +kernel
theorem dX9_law_16 : decode cX9_law 16 = .ok (.invokevirtual 132, 3) := by decide +kernel
theorem dX9_law_19 : decode cX9_law 19 = .ok (.istore_n 1, 1) := by decide +kernel
theorem dX9_law_20 : decode cX9_law 20 = .ok (.aload_n 0, 1) := by decide +kernel
theorem dX9_law_21 : decode cX9_law 21 = .ok (.aload_n 0, 1) := by decide +kernel
theorem dX9_law_22 : decode cX9_law 22 = .ok (.getfield 78, 3) := by decide +kernel
theorem dX9_law_25 : decode cX9_law 25 = .ok (.getfield 135, 3) := by decide +kernel
theorem dX9_law_28 : decode cX9_law 28 = .ok (.getfield 109, 3) := by decide +kernel
theorem dX9_law_31 : decode cX9_law 31 = .ok (.putfield 13, 3) := by decide +kernel
theorem dX9_law_34 : decode cX9_law 34 = .ok (.iload_n 1, 1) := by decide +kernel
theorem dX9_law_35 : decode cX9_law 35 = .ok (.ifCond .ne 13, 3) := by decide +kernel
theorem dX9_law_38 : decode cX9_law 38 = .ok (.new 114, 3) := by decide +kernel
theorem dX9_law_41 : decode cX9_law 41 = .ok (.dup, 1) := by decide +kernel
theorem dX9_law_42 : decode cX9_law 42 = .ok (.ldc 116, 2) := by decide +kernel
theorem dX9_law_44 : decode cX9_law 44 = .ok (.invokespecial 118, 3) := by decide +kernel
theorem dX9_law_47 : decode cX9_law 47 = .ok (.athrow, 1) := by decide +kernel
theorem dX9_law_48 : decode cX9_law 48 = .ok (.aload_n 0, 1) := by decide +kernel
theorem dX9_law_49 : decode cX9_law 49 = .ok (.getfield 30, 3) := by decide +kernel
theorem dX9_law_52 : decode cX9_law 52 = .ok (.astore_n 2, 1) := by decide +kernel
theorem dX9_law_53 : decode cX9_law 53 = .ok (.aload_n 0, 1) := by decide +kernel
theorem dX9_law_54 : decode cX9_law 54 = .ok (.aload_n 0, 1) := by decide +kernel
theorem dX9_law_55 : decode cX9_law 55 = .ok (.getfield 34, 3) := by decide +kernel
theorem dX9_law_58 : decode cX9_law 58 = .ok (.putfield 30, 3) := by decide +kernel
theorem dX9_law_61 : decode cX9_law 61 = .ok (.aload_n 0, 1) := by decide +kernel
theorem dX9_law_62 : decode cX9_law 62 = .ok (.aload_n 2, 1) := by decide +kernel
theorem dX9_law_63 : decode cX9_law 63 = .ok (.putfield 34, 3) := by decide +kernel
theorem dX9_law_66 : decode cX9_law 66 = .ok (.aload_n 0, 1) := by decide +kernel
theorem dX9_law_67 : decode cX9_law 67 = .ok (.iconst 0, 1) := by decide +kernel
theorem dX9_law_68 : decode cX9_law 68 = .ok (.putfield 129, 3) := by decide +kernel
theorem dX9_law_71 : decode cX9_law 71 = .ok (.aload_n 0, 1) := by decide +kernel
theorem dX9_law_72 : decode cX9_law 72 = .ok (.getfield 30, 3) := by decide +kernel
theorem dX9_law_75 : decode cX9_law 75 = .ok (.getfield 136, 3) := by decide +kernel
theorem dX9_law_78 : decode cX9_law 78 = .ok (.ireturn, 1) := by decide +kernel
theorem dX9_fault_0 : decode cX9_fault 0 = .ok (.aload_n 0, 1) := by decide +kernel
theorem dX9_fault_1 : decode cX9_fault 1 = .ok (.getfield 13, 3) := by decide +kernel
theorem dX9_fault_4 : decode cX9_fault 4 = .ok (.ireturn, 1) := by decide +kernel
theorem dX9_thing_0 : decode cX9_thing 0 = .ok (.aload_n 0, 1) := by decide +kernel
theorem dX9_thing_1 : decode cX9_thing 1 = .ok (.iload_n 1, 1) := by decide +kernel
theorem dX9_thing_2 : decode cX9_thing 2 = .ok (.invokevirtual 139, 3) := by decide +kernel
theorem dX9_thing_5 : decode cX9_thing 5 = .ok (.iload_n 2, 1) := by decide +kernel
theorem dX9_thing_6 : decode cX9_thing 6 = .ok (.ifCond .lt 9, 3) := by decide +kernel
theorem dX9_thing_9 : decode cX9_thing 9 = .ok (.iload_n 2, 1) := by decide +kernel
theorem dX9_thing_10 : decode cX9_thing 10 = .ok (.bipush 7, 2) := by decide +kernel
theorem dX9_thing_12 : decode cX9_thing 12 = .ok (.if_icmp .le 13, 3) := by decide +kernel
theorem dX9_thing_15 : decode cX9_thing 15 = .ok (.new 142, 3) := by decide +kernel
theorem dX9_thing_18 : decode cX9_thing 18 = .ok (.dup, 1) := by decide +kernel
theorem dX9_thing_19 : decode cX9_thing 19 = .ok (.ldc 144, 2) := by decide +kernel
theorem dX9_thing_21 : decode cX9_thing 21 = .ok (.invokespecial 146, 3) := by decide +kernel
theorem dX9_thing_24 : decode cX9_thing 24 = .ok (.athrow, 1) := by decide +kernel
theorem dX9_thing_25 : decode cX9_thing 25 = .ok (.iload_n 2, 1) := by decide +kernel
theorem dX9_thing_26 : decode cX9_thing 26 = .ok (.iconst 5, 1) := by decide +kernel
theorem dX9_thing_27 : decode cX9_thing 27 = .ok (.if_icmp .ge 13, 3) := by decide +kernel
theorem dX9_thing_30 : decode cX9_thing 30 = .ok (.aload_n 0, 1) := by decide +kernel
theorem dX9_thing_31 : decode cX9_thing 31 = .ok (.getfield 20, 3) := by decide +kernel
theorem dX9_thing_34 : decode cX9_thing 34 = .ok (.iload_n 1, 1) := by decide +kernel
theorem dX9_thing_35 : decode cX9_thing 35 = .ok (.iload_n 2, 1) := by decide +kernel
theorem dX9_thing_36 : decode cX9_thing 36 = .ok (.invokevirtual 147, 3) := by decide +kernel
theorem dX9_thing_39 : decode cX9_thing 39 = .ok (.ireturn, 1) := by decide +kernel
theorem dX9_thing_40 : decode cX9_thing 40 = .ok (.aload_n 0, 1) := by decide +kernel
theorem dX9_thing_41 : decode cX9_thing 41 = .ok (.aload_n 0, 1) := by decide +kernel
theorem dX9_thing_42 : decode cX9_thing 42 = .ok (.getfield 20, 3) := by decide +kernel
theorem dX9_thing_45 : decode cX9_thing 45 = .ok (.invokevirtual 151, 3) := by decide +kernel
theorem dX9_thing_48 : decode cX9_thing 48 = .ok (.pop, 1) := by decide +kernel
theorem dX9_thing_49 : decode cX9_thing 49 = .ok (.iload_n 2, 1) := by decide +kernel
theorem dX9_thing_50 : decode cX9_thing 50 = .ok (.iconst 5, 1) := by decide +kernel
theorem dX9_thing_51 : decode cX9_thing 51 = .ok (.if_icmp .ne 15, 3) := by decide +kernel
theorem dX9_thing_54 : decode cX9_thing 54 = .ok (.aload_n 0, 1) := by decide +kernel
theorem dX9_thing_55 : decode cX9_thing 55 = .ok (.getfield 50, 3) := by decide +kernel
theorem dX9_thing_58 : decode cX9_thing 58 = .ok (.getfield 155, 3) := by decide +kernel
theorem dX9_thing_61 : decode cX9_thing 61 = .ok (.iload_n 1, 1) := by decide +kernel
theorem dX9_thing_62 : decode cX9_thing 62 = .ok (.invokestatic 158, 3) := by decide +kernel
theorem dX9_thing_65 : decode cX9_thing 65 = .ok (.ireturn, 1) := by decide +kernel
theorem dX9_thing_66 : decode cX9_thing 66 = .ok (.iload_n 2, 1) := by decide +kernel
theorem dX9_thing_67 : decode cX9_thing 67 = .ok (.bipush 6, 2) := by decide +kernel
theorem dX9_thing_69 : decode cX9_thing 69 = .ok (.if_icmp .ne 14, 3) := by decide +kernel
theorem dX9_thing_72 : decode cX9_thing 72 = .ok (.aload_n 0, 1) := by decide +kernel
theorem dX9_thing_73 : decode cX9_thing 73 = .ok (.getfield 50, 3) := by decide +kernel
theorem dX9_thing_76 : decode cX9_thing 76 = .ok (.iload_n 1, 1) := by decide +kernel
theorem dX9_thing_77 : decode cX9_thing 77 = .ok (.invokevirtual 162, 3) := by decide +kernel
theorem dX9_thing_80 : decode cX9_thing 80 = .ok (.goto 11, 3) := by decide +kernel
theorem dX9_thing_83 : decode cX9_thing 83 = .ok (.aload_n 0, 1) := by decide +kernel
theorem dX9_thing_84 : decode cX9_thing 84 = .ok (.getfield 50, 3) := by decide +kernel
theorem dX9_thing_87 : decode cX9_thing 87 = .ok (.iload_n 1, 1) := by decide +kernel
theorem dX9_thing_88 : decode cX9_thing 88 = .ok (.invokevirtual 166, 3) := by decide +kernel
theorem dX9_thing_91 : decode cX9_thing 91 = .ok (.ireturn, 1) := by decide +kernel
theorem dX9_visitor_0 : decode cX9_visitor 0 = .ok (.aload_n 0, 1) := by decide +kernel
theorem dX9_visitor_1 : decode cX9_visitor 1 = .ok (.iload_n 1, 1) := by decide +kernel
theorem dX9_visitor_2 : decode cX9_visitor 2 = .ok (.invokevirtual 169, 3) := by decide +kernel
theorem dX9_visitor_5 : decode cX9_visitor 5 = .ok (.iload_n 2, 1) := by decide +kernel
theorem dX9_visitor_6 : decode cX9_visitor 6 = .ok (.ifCond .lt 9, 3) := by decide +kernel
theorem dX9_visitor_9 : decode cX9_visitor 9 = .ok (.iload_n 2, 1) := by decide +kernel
theorem dX9_visitor_10 : decode cX9_visitor 10 = .ok (.bipush 7, 2) := by decide +kernel
theorem dX9_visitor_12 : decode cX9_visitor 12 = .ok (.if_icmp .le 13, 3) := by decide +kernel
theorem dX9_visitor_15 : decode cX9_visitor 15 = .ok (.new 142, 3) := by decide +kernel
theorem dX9_visitor_18 : decode cX9_visitor 18 = .ok (.dup, 1) := by decide +kernel
theorem dX9_visitor_19 : decode cX9_visitor 19 = .ok (.ldc 172, 2) := by decide +kernel
theorem dX9_visitor_21 : decode cX9_visitor 21 = .ok (.invokespecial 146, 3) := by decide +kernel
theorem dX9_visitor_24 : decode cX9_visitor 24 = .ok (.athrow, 1) := by decide +kernel
theorem dX9_visitor_25 : decode cX9_visitor 25 = .ok (.iload_n 2, 1) := by decide +kernel
theorem dX9_visitor_26 : decode cX9_visitor 26 = .ok (.iconst 5, 1) := by decide +kernel
theorem dX9_visitor_27 : decode cX9_visitor 27 = .ok (.if_icmp .ge 13, 3) := by decide +kernel
theorem dX9_visitor_30 : decode cX9_visitor 30 = .ok (.aload_n 0, 1) := by decide +kernel
theorem dX9_visitor_31 : decode cX9_visitor 31 = .ok (.getfield 20, 3) := by decide +kernel
theorem dX9_visitor_34 : decode cX9_visitor 34 = .ok (.iload_n 1, 1) := by decide +kernel
theorem dX9_visitor_35 : decode cX9_visitor 35 = .ok (.iload_n 2, 1) := by decide +kernel
theorem dX9_visitor_36 : decode cX9_visitor 36 = .ok (.invokevirtual 174, 3) := by decide +kernel
theorem dX9_visitor_39 : decode cX9_visitor 39 = .ok (.ireturn, 1) := by decide +kernel
theorem dX9_visitor_40 : decode cX9_visitor 40 = .ok (.iload_n 2, 1) := by decide +kernel
theorem dX9_visitor_41 : decode cX9_visitor 41 = .ok (.iconst 5, 1) := by decide +kernel
theorem dX9_visitor_42 : decode cX9_visitor 42 = .ok (.if_icmp .ne 13, 3) := by decide +kernel
theorem dX9_visitor_45 : decode cX9_visitor 45 = .ok (.aload_n 0, 1) := by decide +kernel
theorem dX9_visitor_46 : decode cX9_visitor 46 = .ok (.aload_n 0, 1) := by decide +kernel
theorem dX9_visitor_47 : decode cX9_visitor 47 = .ok (.getfield 20, 3) := by decide +kernel
theorem dX9_visitor_50 : decode cX9_visitor 50 = .ok (.iload_n 1, 1) := by decide +kernel
theorem dX9_visitor_51 : decode cX9_visitor 51 = .ok (.invokevirtual 177, 3) := by decide +kernel
theorem dX9_visitor_54 : decode cX9_visitor 54 = .ok (.ireturn, 1) := by decide +kernel
theorem dX9_visitor_55 : decode cX9_visitor 55 = .ok (.aload_n 0, 1) := by decide +kernel
theorem dX9_visitor_56 : decode cX9_visitor 56 = .ok (.aload_n 0, 1) := by decide +kernel
theorem dX9_visitor_57 : decode cX9_visitor 57 = .ok (.getfield 20, 3) := by decide +kernel
theorem dX9_visitor_60 : decode cX9_visitor 60 = .ok (.invokevirtual 151, 3) := by decide +kernel
theorem dX9_visitor_63 : decode cX9_visitor 63 = .ok (.pop, 1) := by decide +kernel
theorem dX9_visitor_64 : decode cX9_visitor 64 = .ok (.aload_n 0, 1) := by decide +kernel
theorem dX9_visitor_65 : decode cX9_visitor 65 = .ok (.getfield 50, 3) := by decide +kernel
theorem dX9_visitor_68 : decode cX9_visitor 68 = .ok (.getfield 181, 3) := by decide +kernel
theorem dX9_visitor_71 : decode cX9_visitor 71 = .ok (.iload_n 1, 1) := by decide +kernel
theorem dX9_visitor_72 : decode cX9_visitor 72 = .ok (.invokestatic 158, 3) := by decide +kernel
theorem dX9_visitor_75 : decode cX9_visitor 75 = .ok (.istore_n 3, 1) := by decide +kernel
theorem dX9_visitor_76 : decode cX9_visitor 76 = .ok (.iload_n 2, 1) := by decide +kernel
theorem dX9_visitor_77 : decode cX9_visitor 77 = .ok (.bipush 6, 2) := by decide +kernel
theorem dX9_visitor_79 : decode cX9_visitor 79 = .ok (.if_icmp .eq 8, 3) := by decide +kernel
theorem dX9_visitor_82 : decode cX9_visitor 82 = .ok (.iload_n 3, 1) := by decide +kernel
theorem dX9_visitor_83 : decode cX9_visitor 83 = .ok (.iconst (-1), 1) := by decide +kernel
theorem dX9_visitor_84 : decode cX9_visitor 84 = .ok (.if_icmp .ne 5, 3) := by decide +kernel
theorem dX9_visitor_87 : decode cX9_visitor 87 = .ok (.iload_n 3, 1) := by decide +kernel
theorem dX9_visitor_88 : decode cX9_visitor 88 = .ok (.ireturn, 1) := by decide +kernel
theorem dX9_visitor_89 : decode cX9_visitor 89 = .ok (.aload_n 0, 1) := by decide +kernel
theorem dX9_visitor_90 : decode cX9_visitor 90 = .ok (.getfield 20, 3) := by decide +kernel
theorem dX9_visitor_93 : decode cX9_visitor 93 = .ok (.aload_n 0, 1) := by decide +kernel
theorem dX9_visitor_94 : decode cX9_visitor 94 = .ok (.getfield 20, 3) := by decide +kernel
theorem dX9_visitor_97 : decode cX9_visitor 97 = .ok (.iload_n 3, 1) := by decide +kernel
theorem dX9_visitor_98 : decode cX9_visitor 98 = .ok (.iconst 0, 1) := by decide +kernel
theorem dX9_visitor_99 : decode cX9_visitor 99 = .ok (.invokevirtual 147, 3) := by decide +kernel
theorem dX9_visitor_102 : decode cX9_visitor 102 = .ok (.invokevirtual 184, 3) := by decide +kernel
theorem dX9_visitor_105 : decode cX9_visitor 105 = .ok (.ireturn, 1) := by decide +kernel
theorem dX9_liking_0 : decode cX9_liking 0 = .ok (.aload_n 0, 1) := by decide +kernel
theorem dX9_liking_1 : decode cX9_liking 1 = .ok (.iload_n 1, 1) := by decide +kernel
theorem dX9_liking_2 : decode cX9_liking 2 = .ok (.invokevirtual 139, 3) := by decide +kernel
theorem dX9_liking_5 : decode cX9_liking 5 = .ok (.aload_n 0, 1) := by decide +kernel
theorem dX9_liking_6 : decode cX9_liking 6 = .ok (.iload_n 2, 1) := by decide +kernel
theorem dX9_liking_7 : decode cX9_liking 7 = .ok (.invokevirtual 169, 3) := by decide +kernel
theorem dX9_liking_10 : decode cX9_liking 10 = .ok (.aload_n 0, 1) := by decide +kernel
theorem dX9_liking_11 : decode cX9_liking 11 = .ok (.getfield 30, 3) := by decide +kernel
theorem dX9_liking_14 : decode cX9_liking 14 = .ok (.aload_n 0, 1) := by decide +kernel
theorem dX9_liking_15 : decode cX9_liking 15 = .ok (.getfield 20, 3) := by decide +kernel
theorem dX9_liking_18 : decode cX9_liking 18 = .ok (.iload_n 1, 1) := by decide +kernel
theorem dX9_liking_19 : decode cX9_liking 19 = .ok (.iload_n 2, 1) := by decide +kernel
theorem dX9_liking_20 : decode cX9_liking 20 = .ok (.invokevirtual 187, 3) := by decide +kernel
theorem dX9_liking_23 : decode cX9_liking 23 = .ok (.ireturn, 1) := by decide +kernel
theorem dX9_ringing_0 : decode cX9_ringing 0 = .ok (.iconst 0, 1) := by decide +kernel
theorem dX9_ringing_1 : decode cX9_ringing 1 = .ok (.istore_n 3, 1) := by decide +kernel
theorem dX9_ringing_2 : decode cX9_ringing 2 = .ok (.iconst 0, 1) := by decide +kernel
theorem dX9_ringing_3 : decode cX9_ringing 3 = .ok (.istore 4, 2) := by decide +kernel
theorem dX9_ringing_5 : decode cX9_ringing 5 = .ok (.iload 4, 2) := by decide +kernel
theorem dX9_ringing_7 : decode cX9_ringing 7 = .ok (.aload_n 1, 1) := by decide +kernel
theorem dX9_ringing_8 : decode cX9_ringing 8 = .ok (.getfield 191, 3) := by decide +kernel
theorem dX9_ringing_11 : decode cX9_ringing 11 = .ok (.if_icmp .ge 36, 3) := by decide +kernel
theorem dX9_ringing_14 : decode cX9_ringing 14 = .ok (.aload_n 1, 1) := by decide +kernel
theorem dX9_ringing_15 : decode cX9_ringing 15 = .ok (.iload 4, 2) := by decide +kernel
theorem dX9_ringing_17 : decode cX9_ringing 17 = .ok (.aload_n 0, 1) := by decide +kernel
theorem dX9_ringing_18 : decode cX9_ringing 18 = .ok (.getfield 30, 3) := by decide +kernel
theorem dX9_ringing_21 : decode cX9_ringing 21 = .ok (.aload_n 1, 1) := by decide +kernel
theorem dX9_ringing_22 : decode cX9_ringing 22 = .ok (.iload 4, 2) := by decide +kernel
theorem dX9_ringing_24 : decode cX9_ringing 24 = .ok (.iload_n 2, 1) := by decide +kernel
theorem dX9_ringing_25 : decode cX9_ringing 25 = .ok (.invokevirtual 187, 3) := by decide +kernel
theorem dX9_ringing_28 : decode cX9_ringing 28 = .ok (.invokevirtual 194, 3) := by decide +kernel
theorem dX9_ringing_31 : decode cX9_ringing 31 = .ok (.ifCond .eq 10, 3) := by decide +kernel
theorem dX9_ringing_34 : decode cX9_ringing 34 = .ok (.iload_n 3, 1) := by decide +kernel
theorem dX9_ringing_35 : decode cX9_ringing 35 = .ok (.iconst 1, 1) := by decide +kernel
theorem dX9_ringing_36 : decode cX9_ringing 36 = .ok (.iload 4, 2) := by decide +kernel
theorem dX9_ringing_38 : decode cX9_ringing 38 = .ok (.ishl, 1) := by decide +kernel
theorem dX9_ringing_39 : decode cX9_ringing 39 = .ok (.ior, 1) := by decide +kernel
theorem dX9_ringing_40 : decode cX9_ringing 40 = .ok (.istore_n 3, 1) := by decide +kernel
theorem dX9_ringing_41 : decode cX9_ringing 41 = .ok (.iinc 4 1, 3) := by decide +kernel
theorem dX9_ringing_44 : decode cX9_ringing 44 = .ok (.goto (-39), 3) := by decide +kernel
theorem dX9_ringing_47 : decode cX9_ringing 47 = .ok (.iload_n 3, 1) := by decide +kernel
theorem dX9_ringing_48 : decode cX9_ringing 48 = .ok (.ireturn, 1) := by decide +kernel
theorem dX9_tomorrow_0 : decode cX9_tomorrow 0 = .ok (.aload_n 0, 1) := by decide +kernel
theorem dX9_tomorrow_1 : decode cX9_tomorrow 1 = .ok (.getfield 50, 3) := by decide +kernel
theorem dX9_tomorrow_4 : decode cX9_tomorrow 4 = .ok (.aload_n 1, 1) := by decide +kernel
theorem dX9_tomorrow_5 : decode cX9_tomorrow 5 = .ok (.aload_n 0, 1) := by decide +kernel
theorem dX9_tomorrow_6 : decode cX9_tomorrow 6 = .ok (.getfield 30, 3) := by decide +kernel
theorem dX9_tomorrow_9 : decode cX9_tomorrow 9 = .ok (.invokevirtual 198, 3) := by decide +kernel
theorem dX9_tomorrow_12 : decode cX9_tomorrow 12 = .ok (.aload_n 0, 1) := by decide +kernel
theorem dX9_tomorrow_13 : decode cX9_tomorrow 13 = .ok (.getfield 50, 3) := by decide +kernel
theorem dX9_tomorrow_16 : decode cX9_tomorrow 16 = .ok (.aload_n 1, 1) := by decide +kernel
theorem dX9_tomorrow_17 : decode cX9_tomorrow 17 = .ok (.iconst 0, 1) := by decide +kernel
theorem dX9_tomorrow_18 : decode cX9_tomorrow 18 = .ok (.invokevirtual 202, 3) := by decide +kernel
theorem dX9_tomorrow_21 : decode cX9_tomorrow 21 = .ok (.ireturn, 1) := by decide +kernel
theorem dX9_move_0 : decode cX9_move 0 = .ok (.aload_n 0, 1) := by decide +kernel
theorem dX9_move_1 : decode cX9_move 1 = .ok (.iload_n 1, 1) := by decide +kernel
theorem dX9_move_2 : decode cX9_move 2 = .ok (.invokevirtual 139, 3) := by decide +kernel
theorem dX9_move_5 : decode cX9_move 5 = .ok (.iload_n 2, 1) := by decide +kernel
theorem dX9_move_6 : decode cX9_move 6 = .ok (.invokestatic 206, 3) := by decide +kernel
theorem dX9_move_9 : decode cX9_move 9 = .ok (.aload_n 0, 1) := by decide +kernel
theorem dX9_move_10 : decode cX9_move 10 = .ok (.invokevirtual 209, 3) := by decide +kernel
theorem dX9_move_13 : decode cX9_move 13 = .ok (.aload_n 0, 1) := by decide +kernel
theorem dX9_move_14 : decode cX9_move 14 = .ok (.getfield 20, 3) := by decide +kernel
theorem dX9_move_17 : decode cX9_move 17 = .ok (.iload_n 2, 1) := by decide +kernel
theorem dX9_move_18 : decode cX9_move 18 = .ok (.invokevirtual 212, 3) := by decide +kernel
theorem dX9_move_21 : decode cX9_move 21 = .ok (.istore_n 3, 1) := by decide +kernel
theorem dX9_move_22 : decode cX9_move 22 = .ok (.iload_n 3, 1) := by decide +kernel
theorem dX9_move_23 : decode cX9_move 23 = .ok (.iload_n 1, 1) := by decide +kernel
theorem dX9_move_24 : decode cX9_move 24 = .ok (.if_icmp .ne 5, 3) := by decide +kernel
theorem dX9_move_27 : decode cX9_move 27 = .ok (.iconst (-1), 1) := by decide +kernel
theorem dX9_move_28 : decode cX9_move 28 = .ok (.ireturn, 1) := by decide +kernel
theorem dX9_move_29 : decode cX9_move 29 = .ok (.iload_n 3, 1) := by decide +kernel
theorem dX9_move_30 : decode cX9_move 30 = .ok (.iconst (-1), 1) := by decide +kernel
theorem dX9_move_31 : decode cX9_move 31 = .ok (.if_icmp .eq 21, 3) := by decide +kernel
theorem dX9_move_34 : decode cX9_move 34 = .ok (.aload_n 0, 1) := by decide +kernel
theorem dX9_move_35 : decode cX9_move 35 = .ok (.getfield 20, 3) := by decide +kernel
theorem dX9_move_38 : decode cX9_move 38 = .ok (.iload_n 3, 1) := by decide +kernel
theorem dX9_move_39 : decode cX9_move 39 = .ok (.iconst 0, 1) := by decide +kernel
theorem dX9_move_40 : decode cX9_move 40 = .ok (.aload_n 0, 1) := by decide +kernel
theorem dX9_move_41 : decode cX9_move 41 = .ok (.getfield 20, 3) := by decide +kernel
theorem dX9_move_44 : decode cX9_move 44 = .ok (.iload_n 1, 1) := by decide +kernel
theorem dX9_move_45 : decode cX9_move 45 = .ok (.iconst 0, 1) := by decide +kernel
theorem dX9_move_46 : decode cX9_move 46 = .ok (.invokevirtual 147, 3) := by decide +kernel
theorem dX9_move_49 : decode cX9_move 49 = .ok (.invokevirtual 215, 3) := by decide +kernel
theorem dX9_move_52 : decode cX9_move 52 = .ok (.aload_n 0, 1) := by decide +kernel
theorem dX9_move_53 : decode cX9_move 53 = .ok (.getfield 20, 3) := by decide +kernel
theorem dX9_move_56 : decode cX9_move 56 = .ok (.iload_n 1, 1) := by decide +kernel
theorem dX9_move_57 : decode cX9_move 57 = .ok (.iconst 0, 1) := by decide +kernel
theorem dX9_move_58 : decode cX9_move 58 = .ok (.iload_n 2, 1) := by decide +kernel
theorem dX9_move_59 : decode cX9_move 59 = .ok (.invokevirtual 215, 3) := by decide +kernel
theorem dX9_move_62 : decode cX9_move 62 = .ok (.iload_n 3, 1) := by decide +kernel
theorem dX9_move_63 : decode cX9_move 63 = .ok (.ireturn, 1) := by decide +kernel
theorem dX9_hold_0 : decode cX9_hold 0 = .ok (.aload_n 0, 1) := by decide +kernel
theorem dX9_hold_1 : decode cX9_hold 1 = .ok (.iload_n 1, 1) := by decide +kernel
theorem dX9_hold_2 : decode cX9_hold 2 = .ok (.invokevirtual 139, 3) := by decide +kernel
theorem dX9_hold_5 : decode cX9_hold 5 = .ok (.iload_n 2, 1) := by decide +kernel
theorem dX9_hold_6 : decode cX9_hold 6 = .ok (.ifCond .lt 9, 3) := by decide +kernel
theorem dX9_hold_9 : decode cX9_hold 9 = .ok (.iload_n 2, 1) := by decide +kernel
theorem dX9_hold_10 : decode cX9_hold 10 = .ok (.bipush 100, 2) := by decide +kernel
theorem dX9_hold_12 : decode cX9_hold 12 = .ok (.if_icmp .lt 13, 3) := by decide +kernel
theorem dX9_hold_15 : decode cX9_hold 15 = .ok (.new 114, 3) := by decide +kernel
theorem dX9_hold_18 : decode cX9_hold 18 = .ok (.dup, 1) := by decide +kernel
theorem dX9_hold_19 : decode cX9_hold 19 = .ok (.ldc 219, 2) := by decide +kernel
theorem dX9_hold_21 : decode cX9_hold 21 = .ok (.invokespecial 118, 3) := by decide +kernel
theorem dX9_hold_24 : decode cX9_hold 24 = .ok (.athrow, 1) := by decide +kernel
theorem dX9_hold_25 : decode cX9_hold 25 = .ok (.aload_n 0, 1) := by decide +kernel
theorem dX9_hold_26 : decode cX9_hold 26 = .ok (.invokevirtual 209, 3) := by decide +kernel
theorem dX9_hold_29 : decode cX9_hold 29 = .ok (.aload_n 0, 1) := by decide +kernel
theorem dX9_hold_30 : decode cX9_hold 30 = .ok (.getfield 20, 3) := by decide +kernel
theorem dX9_hold_33 : decode cX9_hold 33 = .ok (.iload_n 1, 1) := by decide +kernel
theorem dX9_hold_34 : decode cX9_hold 34 = .ok (.iconst 1, 1) := by decide +kernel
theorem dX9_hold_35 : decode cX9_hold 35 = .ok (.invokevirtual 147, 3) := by decide +kernel
theorem dX9_hold_38 : decode cX9_hold 38 = .ok (.istore_n 3, 1) := by decide +kernel
theorem dX9_hold_39 : decode cX9_hold 39 = .ok (.aload_n 0, 1) := by decide +kernel
theorem dX9_hold_40 : decode cX9_hold 40 = .ok (.getfield 20, 3) := by decide +kernel
theorem dX9_hold_43 : decode cX9_hold 43 = .ok (.iload_n 1, 1) := by decide +kernel
theorem dX9_hold_44 : decode cX9_hold 44 = .ok (.iconst 1, 1) := by decide +kernel
theorem dX9_hold_45 : decode cX9_hold 45 = .ok (.iload_n 2, 1) := by decide +kernel
theorem dX9_hold_46 : decode cX9_hold 46 = .ok (.invokevirtual 215, 3) := by decide +kernel
theorem dX9_hold_49 : decode cX9_hold 49 = .ok (.iload_n 3, 1) := by decide +kernel
theorem dX9_hold_50 : decode cX9_hold 50 = .ok (.ireturn, 1) := by decide +kernel
theorem dX9_show_0 : decode cX9_show 0 = .ok (.aload_n 0, 1) := by decide +kernel
theorem dX9_show_1 : decode cX9_show 1 = .ok (.iload_n 1, 1) := by decide +kernel
theorem dX9_show_2 : decode cX9_show 2 = .ok (.invokevirtual 139, 3) := by decide +kernel
theorem dX9_show_5 : decode cX9_show 5 = .ok (.aload_n 0, 1) := by decide +kernel
theorem dX9_show_6 : decode cX9_show 6 = .ok (.invokevirtual 209, 3) := by decide +kernel
theorem dX9_show_9 : decode cX9_show 9 = .ok (.iload_n 2, 1) := by decide +kernel
theorem dX9_show_10 : decode cX9_show 10 = .ok (.ifCond .eq 7, 3) := by decide +kernel
theorem dX9_show_13 : decode cX9_show 13 = .ok (.iconst 1, 1) := by decide +kernel
theorem dX9_show_14 : decode cX9_show 14 = .ok (.goto 4, 3) := by decide +kernel
theorem dX9_show_17 : decode cX9_show 17 = .ok (.iconst 0, 1) := by decide +kernel
theorem dX9_show_18 : decode cX9_show 18 = .ok (.istore_n 3, 1) := by decide +kernel
theorem dX9_show_19 : decode cX9_show 19 = .ok (.aload_n 0, 1) := by decide +kernel
theorem dX9_show_20 : decode cX9_show 20 = .ok (.getfield 20, 3) := by decide +kernel
theorem dX9_show_23 : decode cX9_show 23 = .ok (.iload_n 1, 1) := by decide +kernel
theorem dX9_show_24 : decode cX9_show 24 = .ok (.iconst 3, 1) := by decide +kernel
theorem dX9_show_25 : decode cX9_show 25 = .ok (.invokevirtual 147, 3) := by decide +kernel
theorem dX9_show_28 : decode cX9_show 28 = .ok (.iload_n 3, 1) := by decide +kernel
theorem dX9_show_29 : decode cX9_show 29 = .ok (.if_icmp .eq 7, 3) := by decide +kernel
theorem dX9_show_32 : decode cX9_show 32 = .ok (.iconst 1, 1) := by decide +kernel
theorem dX9_show_33 : decode cX9_show 33 = .ok (.goto 4, 3) := by decide +kernel
theorem dX9_show_36 : decode cX9_show 36 = .ok (.iconst 0, 1) := by decide +kernel
theorem dX9_show_37 : decode cX9_show 37 = .ok (.istore 4, 2) := by decide +kernel
theorem dX9_show_39 : decode cX9_show 39 = .ok (.aload_n 0, 1) := by decide +kernel
theorem dX9_show_40 : decode cX9_show 40 = .ok (.getfield 20, 3) := by decide +kernel
theorem dX9_show_43 : decode cX9_show 43 = .ok (.iload_n 1, 1) := by decide +kernel
theorem dX9_show_44 : decode cX9_show 44 = .ok (.iconst 3, 1) := by decide +kernel
theorem dX9_show_45 : decode cX9_show 45 = .ok (.iload_n 3, 1) := by decide +kernel
theorem dX9_show_46 : decode cX9_show 46 = .ok (.invokevirtual 215, 3) := by decide +kernel
theorem dX9_show_49 : decode cX9_show 49 = .ok (.iload 4, 2) := by decide +kernel
theorem dX9_show_51 : decode cX9_show 51 = .ok (.ireturn, 1) := by decide +kernel
theorem dX9_clean_0 : decode cX9_clean 0 = .ok (.aload_n 0, 1) := by decide +kernel
theorem dX9_clean_1 : decode cX9_clean 1 = .ok (.iload_n 1, 1) := by decide +kernel
theorem dX9_clean_2 : decode cX9_clean 2 = .ok (.invokevirtual 169, 3) := by decide +kernel
theorem dX9_clean_5 : decode cX9_clean 5 = .ok (.iload_n 2, 1) := by decide +kernel
theorem dX9_clean_6 : decode cX9_clean 6 = .ok (.ifCond .lt 9, 3) := by decide +kernel
theorem dX9_clean_9 : decode cX9_clean 9 = .ok (.iload_n 2, 1) := by decide +kernel
theorem dX9_clean_10 : decode cX9_clean 10 = .ok (.bipush 10, 2) := by decide +kernel
theorem dX9_clean_12 : decode cX9_clean 12 = .ok (.if_icmp .lt 13, 3) := by decide +kernel
theorem dX9_clean_15 : decode cX9_clean 15 = .ok (.new 114, 3) := by decide +kernel
theorem dX9_clean_18 : decode cX9_clean 18 = .ok (.dup, 1) := by decide +kernel
theorem dX9_clean_19 : decode cX9_clean 19 = .ok (.ldc 221, 2) := by decide +kernel
theorem dX9_clean_21 : decode cX9_clean 21 = .ok (.invokespecial 118, 3) := by decide +kernel
theorem dX9_clean_24 : decode cX9_clean 24 = .ok (.athrow, 1) := by decide +kernel
theorem dX9_clean_25 : decode cX9_clean 25 = .ok (.aload_n 0, 1) := by decide +kernel
theorem dX9_clean_26 : decode cX9_clean 26 = .ok (.invokevirtual 209, 3) := by decide +kernel
theorem dX9_clean_29 : decode cX9_clean 29 = .ok (.aload_n 0, 1) := by decide +kernel
theorem dX9_clean_30 : decode cX9_clean 30 = .ok (.getfield 20, 3) := by decide +kernel
theorem dX9_clean_33 : decode cX9_clean 33 = .ok (.iload_n 1, 1) := by decide +kernel
theorem dX9_clean_34 : decode cX9_clean 34 = .ok (.iconst 1, 1) := by decide +kernel
theorem dX9_clean_35 : decode cX9_clean 35 = .ok (.invokevirtual 174, 3) := by decide +kernel
theorem dX9_clean_38 : decode cX9_clean 38 = .ok (.istore_n 3, 1) := by decide +kernel
theorem dX9_clean_39 : decode cX9_clean 39 = .ok (.aload_n 0, 1) := by decide +kernel
theorem dX9_clean_40 : decode cX9_clean 40 = .ok (.getfield 20, 3) := by decide +kernel
theorem dX9_clean_43 : decode cX9_clean 43 = .ok (.iload_n 1, 1) := by decide +kernel
theorem dX9_clean_44 : decode cX9_clean 44 = .ok (.iconst 1, 1) := by decide +kernel
theorem dX9_clean_45 : decode cX9_clean 45 = .ok (.iload_n 2, 1) := by decide +kernel
theorem dX9_clean_46 : decode cX9_clean 46 = .ok (.invokevirtual 223, 3) := by decide +kernel
theorem dX9_clean_49 : decode cX9_clean 49 = .ok (.iload_n 3, 1) := by decide +kernel
theorem dX9_clean_50 : decode cX9_clean 50 = .ok (.ireturn, 1) := by decide +kernel
theorem dX9_mark_0 : decode cX9_mark 0 = .ok (.aload_n 0, 1) := by decide +kernel
theorem dX9_mark_1 : decode cX9_mark 1 = .ok (.iload_n 1, 1) := by decide +kernel
theorem dX9_mark_2 : decode cX9_mark 2 = .ok (.invokevirtual 169, 3) := by decide +kernel
theorem dX9_mark_5 : decode cX9_mark 5 = .ok (.iload_n 2, 1) := by decide +kernel
theorem dX9_mark_6 : decode cX9_mark 6 = .ok (.ifCond .lt 9, 3) := by decide +kernel
theorem dX9_mark_9 : decode cX9_mark 9 = .ok (.iload_n 2, 1) := by decide +kernel
theorem dX9_mark_10 : decode cX9_mark 10 = .ok (.bipush 6, 2) := by decide +kernel
theorem dX9_mark_12 : decode cX9_mark 12 = .ok (.if_icmp .lt 13, 3) := by decide +kernel
theorem dX9_mark_15 : decode cX9_mark 15 = .ok (.new 226, 3) := by decide +kernel
theorem dX9_mark_18 : decode cX9_mark 18 = .ok (.dup, 1) := by decide +kernel
theorem dX9_mark_19 : decode cX9_mark 19 = .ok (.ldc 228, 2) := by decide +kernel
theorem dX9_mark_21 : decode cX9_mark 21 = .ok (.invokespecial 230, 3) := by decide +kernel
theorem dX9_mark_24 : decode cX9_mark 24 = .ok (.athrow, 1) := by decide +kernel
theorem dX9_mark_25 : decode cX9_mark 25 = .ok (.aload_n 0, 1) := by decide +kernel
theorem dX9_mark_26 : decode cX9_mark 26 = .ok (.invokevirtual 209, 3) := by decide +kernel
theorem dX9_mark_29 : decode cX9_mark 29 = .ok (.aload_n 0, 1) := by decide +kernel
theorem dX9_mark_30 : decode cX9_mark 30 = .ok (.getfield 20, 3) := by decide +kernel
theorem dX9_mark_33 : decode cX9_mark 33 = .ok (.iload_n 1, 1) := by decide +kernel
theorem dX9_mark_34 : decode cX9_mark 34 = .ok (.iconst 4, 1) := by decide +kernel
theorem dX9_mark_35 : decode cX9_mark 35 = .ok (.invokevirtual 174, 3) := by decide +kernel
theorem dX9_mark_38 : decode cX9_mark 38 = .ok (.istore 4, 2) := by decide +kernel
theorem dX9_mark_40 : decode cX9_mark 40 = .ok (.iload_n 3, 1) := by decide +kernel
theorem dX9_mark_41 : decode cX9_mark 41 = .ok (.ifCond .eq 12, 3) := by decide +kernel
theorem dX9_mark_44 : decode cX9_mark 44 = .ok (.iload 4, 2) := by decide +kernel
theorem dX9_mark_46 : decode cX9_mark 46 = .ok (.iconst 1, 1) := by decide +kernel
theorem dX9_mark_47 : decode cX9_mark 47 = .ok (.iload_n 2, 1) := by decide +kernel
theorem dX9_mark_48 : decode cX9_mark 48 = .ok (.ishl, 1) := by decide +kernel
theorem dX9_mark_49 : decode cX9_mark 49 = .ok (.ior, 1) := by decide +kernel
theorem dX9_mark_50 : decode cX9_mark 50 = .ok (.goto 11, 3) := by decide +kernel
theorem dX9_mark_53 : decode cX9_mark 53 = .ok (.iload 4, 2) := by decide +kernel
theorem dX9_mark_55 : decode cX9_mark 55 = .ok (.iconst 1, 1) := by decide +kernel
theorem dX9_mark_56 : decode cX9_mark 56 = .ok (.iload_n 2, 1) := by decide +kernel
theorem dX9_mark_57 : decode cX9_mark 57 = .ok (.ishl, 1) := by decide +kernel
theorem dX9_mark_58 : decode cX9_mark 58 = .ok (.iconst (-1), 1) := by decide +kernel
theorem dX9_mark_59 : decode cX9_mark 59 = .ok (.ixor, 1) := by decide +kernel
theorem dX9_mark_60 : decode cX9_mark 60 = .ok (.iand, 1) := by decide +kernel
theorem dX9_mark_61 : decode cX9_mark 61 = .ok (.istore 5, 2) := by decide +kernel
theorem dX9_mark_63 : decode cX9_mark 63 = .ok (.aload_n 0, 1) := by decide +kernel
theorem dX9_mark_64 : decode cX9_mark 64 = .ok (.getfield 20, 3) := by decide +kernel
theorem dX9_mark_67 : decode cX9_mark 67 = .ok (.iload_n 1, 1) := by decide +kernel
theorem dX9_mark_68 : decode cX9_mark 68 = .ok (.iconst 4, 1) := by decide +kernel
theorem dX9_mark_69 : decode cX9_mark 69 = .ok (.iload 5, 2) := by decide +kernel
theorem dX9_mark_71 : decode cX9_mark 71 = .ok (.invokevirtual 223, 3) := by decide +kernel
theorem dX9_mark_74 : decode cX9_mark 74 = .ok (.iload 5, 2) := by decide +kernel
theorem dX9_mark_76 : decode cX9_mark 76 = .ok (.iload 4, 2) := by decide +kernel
theorem dX9_mark_78 : decode cX9_mark 78 = .ok (.if_icmp .eq 7, 3) := by decide +kernel
theorem dX9_mark_81 : decode cX9_mark 81 = .ok (.iconst 1, 1) := by decide +kernel
theorem dX9_mark_82 : decode cX9_mark 82 = .ok (.goto 4, 3) := by decide +kernel
theorem dX9_mark_85 : decode cX9_mark 85 = .ok (.iconst 0, 1) := by decide +kernel
theorem dX9_mark_86 : decode cX9_mark 86 = .ok (.ireturn, 1) := by decide +kernel
theorem dX9_trade_0 : decode cX9_trade 0 = .ok (.aload_n 0, 1) := by decide +kernel
theorem dX9_trade_1 : decode cX9_trade 1 = .ok (.iload_n 1, 1) := by decide +kernel
theorem dX9_trade_2 : decode cX9_trade 2 = .ok (.invokevirtual 169, 3) := by decide +kernel
theorem dX9_trade_5 : decode cX9_trade 5 = .ok (.aload_n 0, 1) := by decide +kernel
theorem dX9_trade_6 : decode cX9_trade 6 = .ok (.iload_n 2, 1) := by decide +kernel
theorem dX9_trade_7 : decode cX9_trade 7 = .ok (.invokevirtual 169, 3) := by decide +kernel
theorem dX9_trade_10 : decode cX9_trade 10 = .ok (.iload_n 1, 1) := by decide +kernel
theorem dX9_trade_11 : decode cX9_trade 11 = .ok (.iload_n 2, 1) := by decide +kernel
theorem dX9_trade_12 : decode cX9_trade 12 = .ok (.if_icmp .ne 13, 3) := by decide +kernel
theorem dX9_trade_15 : decode cX9_trade 15 = .ok (.new 114, 3) := by decide +kernel
theorem dX9_trade_18 : decode cX9_trade 18 = .ok (.dup, 1) := by decide +kernel
theorem dX9_trade_19 : decode cX9_trade 19 = .ok (.ldc 231, 2) := by decide +kernel
theorem dX9_trade_21 : decode cX9_trade 21 = .ok (.invokespecial 118, 3) := by decide +kernel
theorem dX9_trade_24 : decode cX9_trade 24 = .ok (.athrow, 1) := by decide +kernel
theorem dX9_trade_25 : decode cX9_trade 25 = .ok (.aload_n 0, 1) := by decide +kernel
theorem dX9_trade_26 : decode cX9_trade 26 = .ok (.invokevirtual 209, 3) := by decide +kernel
theorem dX9_trade_29 : decode cX9_trade 29 = .ok (.aload_n 0, 1) := by decide +kernel
theorem dX9_trade_30 : decode cX9_trade 30 = .ok (.getfield 20, 3) := by decide +kernel
theorem dX9_trade_33 : decode cX9_trade 33 = .ok (.iload_n 1, 1) := by decide +kernel
theorem dX9_trade_34 : decode cX9_trade 34 = .ok (.iload_n 2, 1) := by decide +kernel
theorem dX9_trade_35 : decode cX9_trade 35 = .ok (.invokevirtual 233, 3) := by decide +kernel
theorem dX9_trade_38 : decode cX9_trade 38 = .ok (.return_, 1) := by decide +kernel
theorem dX9_days_0 : decode cX9_days 0 = .ok (.iload_n 1, 1) := by decide +kernel
theorem dX9_days_1 : decode cX9_days 1 = .ok (.iconst 1, 1) := by decide +kernel
theorem dX9_days_2 : decode cX9_days 2 = .ok (.if_icmp .lt 9, 3) := by decide +kernel
theorem dX9_days_5 : decode cX9_days 5 = .ok (.iload_n 1, 1) := by decide +kernel
theorem dX9_days_6 : decode cX9_days 6 = .ok (.bipush 50, 2) := by decide +kernel
theorem dX9_days_8 : decode cX9_days 8 = .ok (.if_icmp .le 13, 3) := by decide +kernel
theorem dX9_days_11 : decode cX9_days 11 = .ok (.new 114, 3) := by decide +kernel
theorem dX9_days_14 : decode cX9_days 14 = .ok (.dup, 1) := by decide +kernel
theorem dX9_days_15 : decode cX9_days 15 = .ok (.ldc 237, 2) := by decide +kernel
theorem dX9_days_17 : decode cX9_days 17 = .ok (.invokespecial 118, 3) := by decide +kernel
theorem dX9_days_20 : decode cX9_days 20 = .ok (.athrow, 1) := by decide +kernel
theorem dX9_days_21 : decode cX9_days 21 = .ok (.aload_n 0, 1) := by decide +kernel
theorem dX9_days_22 : decode cX9_days 22 = .ok (.invokevirtual 209, 3) := by decide +kernel
theorem dX9_days_25 : decode cX9_days 25 = .ok (.aload_n 0, 1) := by decide +kernel
theorem dX9_days_26 : decode cX9_days 26 = .ok (.aload_n 0, 1) := by decide +kernel
theorem dX9_days_27 : decode cX9_days 27 = .ok (.getfield 20, 3) := by decide +kernel
theorem dX9_days_30 : decode cX9_days 30 = .ok (.iload_n 1, 1) := by decide +kernel
theorem dX9_days_31 : decode cX9_days 31 = .ok (.invokevirtual 239, 3) := by decide +kernel
theorem dX9_days_34 : decode cX9_days 34 = .ok (.ireturn, 1) := by decide +kernel
theorem dX9_passDays_0 : decode cX9_passDays 0 = .ok (.iconst 0, 1) := by decide +kernel
theorem dX9_passDays_1 : decode cX9_passDays 1 = .ok (.istore_n 3, 1) := by decide +kernel
theorem dX9_passDays_2 : decode cX9_passDays 2 = .ok (.iconst 0, 1) := by decide +kernel
theorem dX9_passDays_3 : decode cX9_passDays 3 = .ok (.istore 4, 2) := by decide +kernel
theorem dX9_passDays_5 : decode cX9_passDays 5 = .ok (.iload 4, 2) := by decide +kernel
theorem dX9_passDays_7 : decode cX9_passDays 7 = .ok (.iload_n 2, 1) := by decide +kernel
theorem dX9_passDays_8 : decode cX9_passDays 8 = .ok (.if_icmp .ge 25, 3) := by decide +kernel
theorem dX9_passDays_11 : decode cX9_passDays 11 = .ok (.iload_n 3, 1) := by decide +kernel
theorem dX9_passDays_12 : decode cX9_passDays 12 = .ok (.aload_n 0, 1) := by decide +kernel
theorem dX9_passDays_13 : decode cX9_passDays 13 = .ok (.getfield 50, 3) := by decide +kernel
theorem dX9_passDays_16 : decode cX9_passDays 16 = .ok (.aload_n 1, 1) := by decide +kernel
theorem dX9_passDays_17 : decode cX9_passDays 17 = .ok (.aload_n 0, 1) := by decide +kernel
theorem dX9_passDays_18 : decode cX9_passDays 18 = .ok (.getfield 30, 3) := by decide +kernel
theorem dX9_passDays_21 : decode cX9_passDays 21 = .ok (.iconst 1, 1) := by decide +kernel
theorem dX9_passDays_22 : decode cX9_passDays 22 = .ok (.invokevirtual 242, 3) := by decide +kernel
theorem dX9_passDays_25 : decode cX9_passDays 25 = .ok (.iadd, 1) := by decide +kernel
theorem dX9_passDays_26 : decode cX9_passDays 26 = .ok (.istore_n 3, 1) := by decide +kernel
theorem dX9_passDays_27 : decode cX9_passDays 27 = .ok (.iinc 4 1, 3) := by decide +kernel
theorem dX9_passDays_30 : decode cX9_passDays 30 = .ok (.goto (-25), 3) := by decide +kernel
theorem dX9_passDays_33 : decode cX9_passDays 33 = .ok (.iload_n 3, 1) := by decide +kernel
theorem dX9_passDays_34 : decode cX9_passDays 34 = .ok (.ireturn, 1) := by decide +kernel
theorem dX9_remember_0 : decode cX9_remember 0 = .ok (.aload_n 0, 1) := by decide +kernel
theorem dX9_remember_1 : decode cX9_remember 1 = .ok (.getfield 129, 3) := by decide +kernel
theorem dX9_remember_4 : decode cX9_remember 4 = .ok (.aload_n 0, 1) := by decide +kernel
theorem dX9_remember_5 : decode cX9_remember 5 = .ok (.getfield 43, 3) := by decide +kernel
theorem dX9_remember_8 : decode cX9_remember 8 = .ok (.arraylength, 1) := by decide +kernel
theorem dX9_remember_9 : decode cX9_remember 9 = .ok (.if_icmp .lt 7, 3) := by decide +kernel
theorem dX9_remember_12 : decode cX9_remember 12 = .ok (.aload_n 0, 1) := by decide +kernel
theorem dX9_remember_13 : decode cX9_remember 13 = .ok (.invokevirtual 246, 3) := by decide +kernel
theorem dX9_remember_16 : decode cX9_remember 16 = .ok (.aload_n 0, 1) := by decide +kernel
theorem dX9_remember_17 : decode cX9_remember 17 = .ok (.getfield 129, 3) := by decide +kernel
theorem dX9_remember_20 : decode cX9_remember 20 = .ok (.ifCond .lt 41, 3) := by decide +kernel
theorem dX9_remember_23 : decode cX9_remember 23 = .ok (.aload_n 0, 1) := by decide +kernel
theorem dX9_remember_24 : decode cX9_remember 24 = .ok (.getfield 129, 3) := by decide +kernel
theorem dX9_remember_27 : decode cX9_remember 27 = .ok (.aload_n 0, 1) := by decide +kernel
theorem dX9_remember_28 : decode cX9_remember 28 = .ok (.getfield 43, 3) := by decide +kernel
theorem dX9_remember_31 : decode cX9_remember 31 = .ok (.arraylength, 1) := by decide +kernel
theorem dX9_remember_32 : decode cX9_remember 32 = .ok (.if_icmp .ge 29, 3) := by decide +kernel
theorem dX9_remember_35 : decode cX9_remember 35 = .ok (.aload_n 0, 1) := by decide +kernel
theorem dX9_remember_36 : decode cX9_remember 36 = .ok (.getfield 43, 3) := by decide +kernel
theorem dX9_remember_39 : decode cX9_remember 39 = .ok (.aload_n 0, 1) := by decide +kernel
theorem dX9_remember_40 : decode cX9_remember 40 = .ok (.getfield 129, 3) := by decide +kernel
theorem dX9_remember_43 : decode cX9_remember 43 = .ok (.aaload, 1) := by decide +kernel
theorem dX9_remember_44 : decode cX9_remember 44 = .ok (.aload_n 0, 1) := by decide +kernel
theorem dX9_remember_45 : decode cX9_remember 45 = .ok (.getfield 20, 3) := by decide +kernel
theorem dX9_remember_48 : decode cX9_remember 48 = .ok (.invokevirtual 93, 3) := by decide +kernel
theorem dX9_remember_51 : decode cX9_remember 51 = .ok (.aload_n 0, 1) := by decide +kernel
theorem dX9_remember_52 : decode cX9_remember 52 = .ok (.dup, 1) := by decide +kernel
theorem dX9_remember_53 : decode cX9_remember 53 = .ok (.getfield 129, 3) := by decide +kernel
theorem dX9_remember_56 : decode cX9_remember 56 = .ok (.iconst 1, 1) := by decide +kernel
theorem dX9_remember_57 : decode cX9_remember 57 = .ok (.iadd, 1) := by decide +kernel
theorem dX9_remember_58 : decode cX9_remember 58 = .ok (.putfield 129, 3) := by decide +kernel
theorem dX9_remember_61 : decode cX9_remember 61 = .ok (.return_, 1) := by decide +kernel
theorem dX9_forgetOldest_0 : decode cX9_forgetOldest 0 = .ok (.aload_n 0, 1) := by decide +kernel
theorem dX9_forgetOldest_1 : decode cX9_forgetOldest 1 = .ok (.getfield 43, 3) := by decide +kernel
theorem dX9_forgetOldest_4 : decode cX9_forgetOldest 4 = .ok (.iconst 0, 1) := by decide +kernel
theorem dX9_forgetOldest_5 : decode cX9_forgetOldest 5 = .ok (.aaload, 1) := by decide +kernel
theorem dX9_forgetOldest_6 : decode cX9_forgetOldest 6 = .ok (.astore_n 1, 1) := by decide +kernel
theorem dX9_forgetOldest_7 : decode cX9_forgetOldest 7 = .ok (.iconst 1, 1) := by decide +kernel
theorem dX9_forgetOldest_8 : decode cX9_forgetOldest 8 = .ok (.istore_n 2, 1) := by decide +kernel
theorem dX9_forgetOldest_9 : decode cX9_forgetOldest 9 = .ok (.iload_n 2, 1) := by decide +kernel
theorem dX9_forgetOldest_10 : decode cX9_forgetOldest 10 = .ok (.aload_n 0, 1) := by decide +kernel
theorem dX9_forgetOldest_11 : decode cX9_forgetOldest 11 = .ok (.getfield 43, 3) := by decide +kernel
theorem dX9_forgetOldest_14 : decode cX9_forgetOldest 14 = .ok (.arraylength, 1) := by decide +kernel
theorem dX9_forgetOldest_15 : decode cX9_forgetOldest 15 = .ok (.if_icmp .ge 23, 3) := by decide +kernel
theorem dX9_forgetOldest_18 : decode cX9_forgetOldest 18 = .ok (.aload_n 0, 1) := by decide +kernel
theorem dX9_forgetOldest_19 : decode cX9_forgetOldest 19 = .ok (.getfield 43, 3) := by decide +kernel
theorem dX9_forgetOldest_22 : decode cX9_forgetOldest 22 = .ok (.iload_n 2, 1) := by decide +kernel
theorem dX9_forgetOldest_23 : decode cX9_forgetOldest 23 = .ok (.iconst 1, 1) := by decide +kernel
theorem dX9_forgetOldest_24 : decode cX9_forgetOldest 24 = .ok (.isub, 1) := by decide +kernel
theorem dX9_forgetOldest_25 : decode cX9_forgetOldest 25 = .ok (.aload_n 0, 1) := by decide +kernel
theorem dX9_forgetOldest_26 : decode cX9_forgetOldest 26 = .ok (.getfield 43, 3) := by decide +kernel
theorem dX9_forgetOldest_29 : decode cX9_forgetOldest 29 = .ok (.iload_n 2, 1) := by decide +kernel
theorem dX9_forgetOldest_30 : decode cX9_forgetOldest 30 = .ok (.aaload, 1) := by decide +kernel
theorem dX9_forgetOldest_31 : decode cX9_forgetOldest 31 = .ok (.aastore, 1) := by decide +kernel
theorem dX9_forgetOldest_32 : decode cX9_forgetOldest 32 = .ok (.iinc 2 1, 3) := by decide +kernel
theorem dX9_forgetOldest_35 : decode cX9_forgetOldest 35 = .ok (.goto (-26), 3) := by decide +kernel
theorem dX9_forgetOldest_38 : decode cX9_forgetOldest 38 = .ok (.aload_n 0, 1) := by decide +kernel
theorem dX9_forgetOldest_39 : decode cX9_forgetOldest 39 = .ok (.getfield 43, 3) := by decide +kernel
theorem dX9_forgetOldest_42 : decode cX9_forgetOldest 42 = .ok (.aload_n 0, 1) := by decide +kernel
theorem dX9_forgetOldest_43 : decode cX9_forgetOldest 43 = .ok (.getfield 43, 3) := by decide +kernel
theorem dX9_forgetOldest_46 : decode cX9_forgetOldest 46 = .ok (.arraylength, 1) := by decide +kernel
theorem dX9_forgetOldest_47 : decode cX9_forgetOldest 47 = .ok (.iconst 1, 1) := by decide +kernel
theorem dX9_forgetOldest_48 : decode cX9_forgetOldest 48 = .ok (.isub, 1) := by decide +kernel
theorem dX9_forgetOldest_49 : decode cX9_forgetOldest 49 = .ok (.aload_n 1, 1) := by decide +kernel
theorem dX9_forgetOldest_50 : decode cX9_forgetOldest 50 = .ok (.aastore, 1) := by decide +kernel
theorem dX9_forgetOldest_51 : decode cX9_forgetOldest 51 = .ok (.aload_n 0, 1) := by decide +kernel
theorem dX9_forgetOldest_52 : decode cX9_forgetOldest 52 = .ok (.aload_n 0, 1) := by decide +kernel
theorem dX9_forgetOldest_53 : decode cX9_forgetOldest 53 = .ok (.getfield 43, 3) := by decide +kernel
theorem dX9_forgetOldest_56 : decode cX9_forgetOldest 56 = .ok (.arraylength, 1) := by decide +kernel
theorem dX9_forgetOldest_57 : decode cX9_forgetOldest 57 = .ok (.iconst 1, 1) := by decide +kernel
theorem dX9_forgetOldest_58 : decode cX9_forgetOldest 58 = .ok (.isub, 1) := by decide +kernel
theorem dX9_forgetOldest_59 : decode cX9_forgetOldest 59 = .ok (.putfield 129, 3) := by decide +kernel
theorem dX9_forgetOldest_62 : decode cX9_forgetOldest 62 = .ok (.return_, 1) := by decide +kernel
theorem dX9_had_0 : decode cX9_had 0 = .ok (.aload_n 0, 1) := by decide +kernel
theorem dX9_had_1 : decode cX9_had 1 = .ok (.aload_n 0, 1) := by decide +kernel
theorem dX9_had_2 : decode cX9_had 2 = .ok (.getfield 20, 3) := by decide +kernel
theorem dX9_had_5 : decode cX9_had 5 = .ok (.invokevirtual 151, 3) := by decide +kernel
theorem dX9_had_8 : decode cX9_had 8 = .ok (.pop, 1) := by decide +kernel
theorem dX9_had_9 : decode cX9_had 9 = .ok (.aload_n 0, 1) := by decide +kernel
theorem dX9_had_10 : decode cX9_had 10 = .ok (.getfield 50, 3) := by decide +kernel
theorem dX9_had_13 : decode cX9_had 13 = .ok (.invokevirtual 249, 3) := by decide +kernel
theorem dX9_had_16 : decode cX9_had 16 = .ok (.ireturn, 1) := by decide +kernel
theorem dX9_first_0 : decode cX9_first 0 = .ok (.aload_n 0, 1) := by decide +kernel
theorem dX9_first_1 : decode cX9_first 1 = .ok (.aload_n 0, 1) := by decide +kernel
theorem dX9_first_2 : decode cX9_first 2 = .ok (.getfield 20, 3) := by decide +kernel
theorem dX9_first_5 : decode cX9_first 5 = .ok (.invokevirtual 151, 3) := by decide +kernel
theorem dX9_first_8 : decode cX9_first 8 = .ok (.pop, 1) := by decide +kernel
theorem dX9_first_9 : decode cX9_first 9 = .ok (.iconst 0, 1) := by decide +kernel
theorem dX9_first_10 : decode cX9_first 10 = .ok (.istore_n 1, 1) := by decide +kernel
theorem dX9_first_11 : decode cX9_first 11 = .ok (.iload_n 1, 1) := by decide +kernel
theorem dX9_first_12 : decode cX9_first 12 = .ok (.bipush 20, 2) := by decide +kernel
theorem dX9_first_14 : decode cX9_first 14 = .ok (.if_icmp .ge 49, 3) := by decide +kernel
theorem dX9_first_17 : decode cX9_first 17 = .ok (.aload_n 0, 1) := by decide +kernel
theorem dX9_first_18 : decode cX9_first 18 = .ok (.getfield 20, 3) := by decide +kernel
theorem dX9_first_21 : decode cX9_first 21 = .ok (.iload_n 1, 1) := by decide +kernel
theorem dX9_first_22 : decode cX9_first 22 = .ok (.invokevirtual 212, 3) := by decide +kernel
theorem dX9_first_25 : decode cX9_first 25 = .ok (.istore_n 2, 1) := by decide +kernel
theorem dX9_first_26 : decode cX9_first 26 = .ok (.iload_n 2, 1) := by decide +kernel
theorem dX9_first_27 : decode cX9_first 27 = .ok (.iconst (-1), 1) := by decide +kernel
theorem dX9_first_28 : decode cX9_first 28 = .ok (.if_icmp .eq 29, 3) := by decide +kernel
theorem dX9_first_31 : decode cX9_first 31 = .ok (.aload_n 0, 1) := by decide +kernel
theorem dX9_first_32 : decode cX9_first 32 = .ok (.getfield 20, 3) := by decide +kernel
theorem dX9_first_35 : decode cX9_first 35 = .ok (.iload_n 2, 1) := by decide +kernel
theorem dX9_first_36 : decode cX9_first 36 = .ok (.iconst 3, 1) := by decide +kernel
theorem dX9_first_37 : decode cX9_first 37 = .ok (.invokevirtual 147, 3) := by decide +kernel
theorem dX9_first_40 : decode cX9_first 40 = .ok (.iconst 1, 1) := by decide +kernel
theorem dX9_first_41 : decode cX9_first 41 = .ok (.if_icmp .ne 16, 3) := by decide +kernel
theorem dX9_first_44 : decode cX9_first 44 = .ok (.aload_n 0, 1) := by decide +kernel
theorem dX9_first_45 : decode cX9_first 45 = .ok (.getfield 50, 3) := by decide +kernel
theorem dX9_first_48 : decode cX9_first 48 = .ok (.iload_n 2, 1) := by decide +kernel
theorem dX9_first_49 : decode cX9_first 49 = .ok (.invokevirtual 162, 3) := by decide +kernel
theorem dX9_first_52 : decode cX9_first 52 = .ok (.ifCond .ne 5, 3) := by decide +kernel
theorem dX9_first_55 : decode cX9_first 55 = .ok (.iload_n 2, 1) := by decide +kernel
theorem dX9_first_56 : decode cX9_first 56 = .ok (.ireturn, 1) := by decide +kernel
theorem dX9_first_57 : decode cX9_first 57 = .ok (.iinc 1 1, 3) := by decide +kernel
theorem dX9_first_60 : decode cX9_first 60 = .ok (.goto (-49), 3) := by decide +kernel
theorem dX9_first_63 : decode cX9_first 63 = .ok (.iconst (-1), 1) := by decide +kernel
theorem dX9_first_64 : decode cX9_first 64 = .ok (.ireturn, 1) := by decide +kernel
theorem dX9_most_0 : decode cX9_most 0 = .ok (.aload_n 0, 1) := by decide +kernel
theorem dX9_most_1 : decode cX9_most 1 = .ok (.invokevirtual 252, 3) := by decide +kernel
theorem dX9_most_4 : decode cX9_most 4 = .ok (.aload_n 0, 1) := by decide +kernel
theorem dX9_most_5 : decode cX9_most 5 = .ok (.getfield 57, 3) := by decide +kernel
theorem dX9_most_8 : decode cX9_most 8 = .ok (.invokevirtual 255, 3) := by decide +kernel
theorem dX9_most_11 : decode cX9_most 11 = .ok (.ireturn, 1) := by decide +kernel
theorem dX9_dearest_0 : decode cX9_dearest 0 = .ok (.iload_n 1, 1) := by decide +kernel
theorem dX9_dearest_1 : decode cX9_dearest 1 = .ok (.iconst (-1), 1) := by decide +kernel
theorem dX9_dearest_2 : decode cX9_dearest 2 = .ok (.if_icmp .eq 8, 3) := by decide +kernel
theorem dX9_dearest_5 : decode cX9_dearest 5 = .ok (.aload_n 0, 1) := by decide +kernel
theorem dX9_dearest_6 : decode cX9_dearest 6 = .ok (.iload_n 1, 1) := by decide +kernel
theorem dX9_dearest_7 : decode cX9_dearest 7 = .ok (.invokevirtual 169, 3) := by decide +kernel
theorem dX9_dearest_10 : decode cX9_dearest 10 = .ok (.aload_n 0, 1) := by decide +kernel
theorem dX9_dearest_11 : decode cX9_dearest 11 = .ok (.getfield 50, 3) := by decide +kernel
theorem dX9_dearest_14 : decode cX9_dearest 14 = .ok (.aload_n 0, 1) := by decide +kernel
theorem dX9_dearest_15 : decode cX9_dearest 15 = .ok (.getfield 20, 3) := by decide +kernel
theorem dX9_dearest_18 : decode cX9_dearest 18 = .ok (.aload_n 0, 1) := by decide +kernel
theorem dX9_dearest_19 : decode cX9_dearest 19 = .ok (.getfield 30, 3) := by decide +kernel
theorem dX9_dearest_22 : decode cX9_dearest 22 = .ok (.invokevirtual 198, 3) := by decide +kernel
theorem dX9_dearest_25 : decode cX9_dearest 25 = .ok (.aload_n 0, 1) := by decide +kernel
theorem dX9_dearest_26 : decode cX9_dearest 26 = .ok (.getfield 64, 3) := by decide +kernel
theorem dX9_dearest_29 : decode cX9_dearest 29 = .ok (.aload_n 0, 1) := by decide +kernel
theorem dX9_dearest_30 : decode cX9_dearest 30 = .ok (.getfield 20, 3) := by decide +kernel
theorem dX9_dearest_33 : decode cX9_dearest 33 = .ok (.aload_n 0, 1) := by decide +kernel
theorem dX9_dearest_34 : decode cX9_dearest 34 = .ok (.getfield 50, 3) := by decide +kernel
theorem dX9_dearest_37 : decode cX9_dearest 37 = .ok (.invokevirtual 258, 3) := by decide +kernel
theorem dX9_dearest_40 : decode cX9_dearest 40 = .ok (.iload_n 1, 1) := by decide +kernel
theorem dX9_dearest_41 : decode cX9_dearest 41 = .ok (.iconst (-1), 1) := by decide +kernel
theorem dX9_dearest_42 : decode cX9_dearest 42 = .ok (.if_icmp .ne 17, 3) := by decide +kernel
theorem dX9_dearest_45 : decode cX9_dearest 45 = .ok (.aload_n 0, 1) := by decide +kernel
theorem dX9_dearest_46 : decode cX9_dearest 46 = .ok (.getfield 64, 3) := by decide +kernel
theorem dX9_dearest_49 : decode cX9_dearest 49 = .ok (.aload_n 0, 1) := by decide +kernel
theorem dX9_dearest_50 : decode cX9_dearest 50 = .ok (.getfield 50, 3) := by decide +kernel
theorem dX9_dearest_53 : decode cX9_dearest 53 = .ok (.invokevirtual 262, 3) := by decide +kernel
theorem dX9_dearest_56 : decode cX9_dearest 56 = .ok (.goto 14, 3) := by decide +kernel
theorem dX9_dearest_59 : decode cX9_dearest 59 = .ok (.aload_n 0, 1) := by decide +kernel
theorem dX9_dearest_60 : decode cX9_dearest 60 = .ok (.getfield 64, 3) := by decide +kernel
theorem dX9_dearest_63 : decode cX9_dearest 63 = .ok (.getfield 266, 3) := by decide +kernel
theorem dX9_dearest_66 : decode cX9_dearest 66 = .ok (.iload_n 1, 1) := by decide +kernel
theorem dX9_dearest_67 : decode cX9_dearest 67 = .ok (.invokestatic 158, 3) := by decide +kernel
theorem dX9_dearest_70 : decode cX9_dearest 70 = .ok (.ireturn, 1) := by decide +kernel
theorem dX9_cannot_0 : decode cX9_cannot 0 = .ok (.aload_n 0, 1) := by decide +kernel
theorem dX9_cannot_1 : decode cX9_cannot 1 = .ok (.invokevirtual 252, 3) := by decide +kernel
theorem dX9_cannot_4 : decode cX9_cannot 4 = .ok (.aload_n 0, 1) := by decide +kernel
theorem dX9_cannot_5 : decode cX9_cannot 5 = .ok (.getfield 57, 3) := by decide +kernel
theorem dX9_cannot_8 : decode cX9_cannot 8 = .ok (.invokevirtual 269, 3) := by decide +kernel
theorem dX9_cannot_11 : decode cX9_cannot 11 = .ok (.ireturn, 1) := by decide +kernel
theorem dX9_pairUp_0 : decode cX9_pairUp 0 = .ok (.aload_n 0, 1) := by decide +kernel
theorem dX9_pairUp_1 : decode cX9_pairUp 1 = .ok (.getfield 50, 3) := by decide +kernel
theorem dX9_pairUp_4 : decode cX9_pairUp 4 = .ok (.aload_n 0, 1) := by decide +kernel
theorem dX9_pairUp_5 : decode cX9_pairUp 5 = .ok (.getfield 20, 3) := by decide +kernel
theorem dX9_pairUp_8 : decode cX9_pairUp 8 = .ok (.aload_n 0, 1) := by decide +kernel
theorem dX9_pairUp_9 : decode cX9_pairUp 9 = .ok (.getfield 30, 3) := by decide +kernel
theorem dX9_pairUp_12 : decode cX9_pairUp 12 = .ok (.invokevirtual 198, 3) := by decide +kernel
theorem dX9_pairUp_15 : decode cX9_pairUp 15 = .ok (.aload_n 0, 1) := by decide +kernel
theorem dX9_pairUp_16 : decode cX9_pairUp 16 = .ok (.getfield 57, 3) := by decide +kernel
theorem dX9_pairUp_19 : decode cX9_pairUp 19 = .ok (.aload_n 0, 1) := by decide +kernel
theorem dX9_pairUp_20 : decode cX9_pairUp 20 = .ok (.getfield 20, 3) := by decide +kernel
theorem dX9_pairUp_23 : decode cX9_pairUp 23 = .ok (.aload_n 0, 1) := by decide +kernel
theorem dX9_pairUp_24 : decode cX9_pairUp 24 = .ok (.getfield 50, 3) := by decide +kernel
theorem dX9_pairUp_27 : decode cX9_pairUp 27 = .ok (.invokevirtual 272, 3) := by decide +kernel
theorem dX9_pairUp_30 : decode cX9_pairUp 30 = .ok (.return_, 1) := by decide +kernel
theorem dX9_change_0 : decode cX9_change 0 = .ok (.aload_n 0, 1) := by decide +kernel
theorem dX9_change_1 : decode cX9_change 1 = .ok (.aload_n 0, 1) := by decide +kernel
theorem dX9_change_2 : decode cX9_change 2 = .ok (.getfield 20, 3) := by decide +kernel
theorem dX9_change_5 : decode cX9_change 5 = .ok (.invokevirtual 151, 3) := by decide +kernel
theorem dX9_change_8 : decode cX9_change 8 = .ok (.istore_n 2, 1) := by decide +kernel
theorem dX9_change_9 : decode cX9_change 9 = .ok (.iconst (-1), 1) := by decide +kernel
theorem dX9_change_10 : decode cX9_change 10 = .ok (.istore_n 3, 1) := by decide +kernel
theorem dX9_change_11 : decode cX9_change 11 = .ok (.aload_n 0, 1) := by decide +kernel
theorem dX9_change_12 : decode cX9_change 12 = .ok (.getfield 24, 3) := by decide +kernel
theorem dX9_change_15 : decode cX9_change 15 = .ok (.aload_n 0, 1) := by decide +kernel
theorem dX9_change_16 : decode cX9_change 16 = .ok (.getfield 20, 3) := by decide +kernel
theorem dX9_change_19 : decode cX9_change 19 = .ok (.invokevirtual 93, 3) := by decide +kernel
theorem dX9_change_22 : decode cX9_change 22 = .ok (.iconst 0, 1) := by decide +kernel
theorem dX9_change_23 : decode cX9_change 23 = .ok (.istore 4, 2) := by decide +kernel
theorem dX9_change_25 : decode cX9_change 25 = .ok (.iload 4, 2) := by decide +kernel
theorem dX9_change_27 : decode cX9_change 27 = .ok (.aload_n 0, 1) := by decide +kernel
theorem dX9_change_28 : decode cX9_change 28 = .ok (.getfield 20, 3) := by decide +kernel
theorem dX9_change_31 : decode cX9_change 31 = .ok (.getfield 191, 3) := by decide +kernel
theorem dX9_change_34 : decode cX9_change 34 = .ok (.if_icmp .ge 83, 3) := by decide +kernel
theorem dX9_change_37 : decode cX9_change 37 = .ok (.iload 4, 2) := by decide +kernel
theorem dX9_change_39 : decode cX9_change 39 = .ok (.iconst 1, 1) := by decide +kernel
theorem dX9_change_40 : decode cX9_change 40 = .ok (.iadd, 1) := by decide +kernel
theorem dX9_change_41 : decode cX9_change 41 = .ok (.istore 5, 2) := by decide +kernel
theorem dX9_change_43 : decode cX9_change 43 = .ok (.iload 5, 2) := by decide +kernel
theorem dX9_change_45 : decode cX9_change 45 = .ok (.aload_n 0, 1) := by decide +kernel
theorem dX9_change_46 : decode cX9_change 46 = .ok (.getfield 20, 3) := by decide +kernel
theorem dX9_change_49 : decode cX9_change 49 = .ok (.getfield 191, 3) := by decide +kernel
theorem dX9_change_52 : decode cX9_change 52 = .ok (.if_icmp .ge 59, 3) := by decide +kernel
theorem dX9_change_55 : decode cX9_change 55 = .ok (.aload_n 0, 1) := by decide +kernel
theorem dX9_change_56 : decode cX9_change 56 = .ok (.getfield 24, 3) := by decide +kernel
theorem dX9_change_59 : decode cX9_change 59 = .ok (.iload 4, 2) := by decide +kernel
theorem dX9_change_61 : decode cX9_change 61 = .ok (.iload 5, 2) := by decide +kernel
theorem dX9_change_63 : decode cX9_change 63 = .ok (.invokevirtual 275, 3) := by decide +kernel
theorem dX9_change_66 : decode cX9_change 66 = .ok (.aload_n 0, 1) := by decide +kernel
theorem dX9_change_67 : decode cX9_change 67 = .ok (.aload_n 0, 1) := by decide +kernel
theorem dX9_change_68 : decode cX9_change 68 = .ok (.getfield 24, 3) := by decide +kernel
theorem dX9_change_71 : decode cX9_change 71 = .ok (.invokevirtual 151, 3) := by decide +kernel
theorem dX9_change_74 : decode cX9_change 74 = .ok (.istore 6, 2) := by decide +kernel
theorem dX9_change_76 : decode cX9_change 76 = .ok (.aload_n 0, 1) := by decide +kernel
theorem dX9_change_77 : decode cX9_change 77 = .ok (.getfield 24, 3) := by decide +kernel
theorem dX9_change_80 : decode cX9_change 80 = .ok (.iload 4, 2) := by decide +kernel
theorem dX9_change_82 : decode cX9_change 82 = .ok (.iload 5, 2) := by decide +kernel
theorem dX9_change_84 : decode cX9_change 84 = .ok (.invokevirtual 275, 3) := by decide +kernel
theorem dX9_change_87 : decode cX9_change 87 = .ok (.iload 6, 2) := by decide +kernel
theorem dX9_change_89 : decode cX9_change 89 = .ok (.iload_n 2, 1) := by decide +kernel
theorem dX9_change_90 : decode cX9_change 90 = .ok (.if_icmp .le 15, 3) := by decide +kernel
theorem dX9_change_93 : decode cX9_change 93 = .ok (.iload 6, 2) := by decide +kernel
theorem dX9_change_95 : decode cX9_change 95 = .ok (.istore_n 2, 1) := by decide +kernel
theorem dX9_change_96 : decode cX9_change 96 = .ok (.bipush 10, 2) := by decide +kernel
theorem dX9_change_98 : decode cX9_change 98 = .ok (.iload 4, 2) := by decide +kernel
theorem dX9_change_100 : decode cX9_change 100 = .ok (.imul, 1) := by decide +kernel
theorem dX9_change_101 : decode cX9_change 101 = .ok (.iload 5, 2) := by decide +kernel
theorem dX9_change_103 : decode cX9_change 103 = .ok (.iadd, 1) := by decide +kernel
theorem dX9_change_104 : decode cX9_change 104 = .ok (.istore_n 3, 1) := by decide +kernel
theorem dX9_change_105 : decode cX9_change 105 = .ok (.iinc 5 1, 3) := by decide +kernel
theorem dX9_change_108 : decode cX9_change 108 = .ok (.goto (-65), 3) := by decide +kernel
theorem dX9_change_111 : decode cX9_change 111 = .ok (.iinc 4 1, 3) := by decide +kernel
theorem dX9_change_114 : decode cX9_change 114 = .ok (.goto (-89), 3) := by decide +kernel
theorem dX9_change_117 : decode cX9_change 117 = .ok (.iload_n 1, 1) := by decide +kernel
theorem dX9_change_118 : decode cX9_change 118 = .ok (.ifCond .eq 7, 3) := by decide +kernel
theorem dX9_change_121 : decode cX9_change 121 = .ok (.iload_n 2, 1) := by decide +kernel
theorem dX9_change_122 : decode cX9_change 122 = .ok (.goto 4, 3) := by decide +kernel
theorem dX9_change_125 : decode cX9_change 125 = .ok (.iload_n 3, 1) := by decide +kernel
theorem dX9_change_126 : decode cX9_change 126 = .ok (.ireturn, 1) := by decide +kernel
theorem dX9_right_0 : decode cX9_right 0 = .ok (.aload_n 0, 1) := by decide +kernel
theorem dX9_right_1 : decode cX9_right 1 = .ok (.iload_n 1, 1) := by decide +kernel
theorem dX9_right_2 : decode cX9_right 2 = .ok (.invokevirtual 139, 3) := by decide +kernel
theorem dX9_right_5 : decode cX9_right 5 = .ok (.aload_n 0, 1) := by decide +kernel
theorem dX9_right_6 : decode cX9_right 6 = .ok (.getfield 24, 3) := by decide +kernel
theorem dX9_right_9 : decode cX9_right 9 = .ok (.aload_n 0, 1) := by decide +kernel
theorem dX9_right_10 : decode cX9_right 10 = .ok (.getfield 20, 3) := by decide +kernel
theorem dX9_right_13 : decode cX9_right 13 = .ok (.invokevirtual 93, 3) := by decide +kernel
theorem dX9_right_16 : decode cX9_right 16 = .ok (.aload_n 0, 1) := by decide +kernel
theorem dX9_right_17 : decode cX9_right 17 = .ok (.getfield 50, 3) := by decide +kernel
theorem dX9_right_20 : decode cX9_right 20 = .ok (.aload_n 0, 1) := by decide +kernel
theorem dX9_right_21 : decode cX9_right 21 = .ok (.getfield 24, 3) := by decide +kernel
theorem dX9_right_24 : decode cX9_right 24 = .ok (.aload_n 0, 1) := by decide +kernel
theorem dX9_right_25 : decode cX9_right 25 = .ok (.getfield 30, 3) := by decide +kernel
theorem dX9_right_28 : decode cX9_right 28 = .ok (.invokevirtual 198, 3) := by decide +kernel
theorem dX9_right_31 : decode cX9_right 31 = .ok (.iconst (-1), 1) := by decide +kernel
theorem dX9_right_32 : decode cX9_right 32 = .ok (.istore_n 3, 1) := by decide +kernel
theorem dX9_right_33 : decode cX9_right 33 = .ok (.iconst 0, 1) := by decide +kernel
theorem dX9_right_34 : decode cX9_right 34 = .ok (.istore 4, 2) := by decide +kernel
theorem dX9_right_36 : decode cX9_right 36 = .ok (.iconst 0, 1) := by decide +kernel
theorem dX9_right_37 : decode cX9_right 37 = .ok (.istore 5, 2) := by decide +kernel
theorem dX9_right_39 : decode cX9_right 39 = .ok (.iload 5, 2) := by decide +kernel
theorem dX9_right_41 : decode cX9_right 41 = .ok (.bipush 100, 2) := by decide +kernel
theorem dX9_right_43 : decode cX9_right 43 = .ok (.if_icmp .ge 67, 3) := by decide +kernel
theorem dX9_right_46 : decode cX9_right 46 = .ok (.aload_n 0, 1) := by decide +kernel
theorem dX9_right_47 : decode cX9_right 47 = .ok (.getfield 24, 3) := by decide +kernel
theorem dX9_right_50 : decode cX9_right 50 = .ok (.iload_n 1, 1) := by decide +kernel
theorem dX9_right_51 : decode cX9_right 51 = .ok (.iconst 1, 1) := by decide +kernel
theorem dX9_right_52 : decode cX9_right 52 = .ok (.iload 5, 2) := by decide +kernel
theorem dX9_right_54 : decode cX9_right 54 = .ok (.invokevirtual 215, 3) := by decide +kernel
theorem dX9_right_57 : decode cX9_right 57 = .ok (.aload_n 0, 1) := by decide +kernel
theorem dX9_right_58 : decode cX9_right 58 = .ok (.getfield 50, 3) := by decide +kernel
theorem dX9_right_61 : decode cX9_right 61 = .ok (.aload_n 0, 1) := by decide +kernel
theorem dX9_right_62 : decode cX9_right 62 = .ok (.getfield 24, 3) := by decide +kernel
theorem dX9_right_65 : decode cX9_right 65 = .ok (.invokevirtual 278, 3) := by decide +kernel
theorem dX9_right_68 : decode cX9_right 68 = .ok (.aload_n 0, 1) := by decide +kernel
theorem dX9_right_69 : decode cX9_right 69 = .ok (.getfield 50, 3) := by decide +kernel
theorem dX9_right_72 : decode cX9_right 72 = .ok (.aload_n 0, 1) := by decide +kernel
theorem dX9_right_73 : decode cX9_right 73 = .ok (.getfield 24, 3) := by decide +kernel
theorem dX9_right_76 : decode cX9_right 76 = .ok (.iconst 0, 1) := by decide +kernel
theorem dX9_right_77 : decode cX9_right 77 = .ok (.invokevirtual 202, 3) := by decide +kernel
theorem dX9_right_80 : decode cX9_right 80 = .ok (.pop, 1) := by decide +kernel
theorem dX9_right_81 : decode cX9_right 81 = .ok (.aload_n 0, 1) := by decide +kernel
theorem dX9_right_82 : decode cX9_right 82 = .ok (.getfield 50, 3) := by decide +kernel
theorem dX9_right_85 : decode cX9_right 85 = .ok (.iload_n 1, 1) := by decide +kernel
theorem dX9_right_86 : decode cX9_right 86 = .ok (.invokevirtual 281, 3) := by decide +kernel
theorem dX9_right_89 : decode cX9_right 89 = .ok (.istore 6, 2) := by decide +kernel
theorem dX9_right_91 : decode cX9_right 91 = .ok (.iload 6, 2) := by decide +kernel
theorem dX9_right_93 : decode cX9_right 93 = .ok (.iload_n 3, 1) := by decide +kernel
theorem dX9_right_94 : decode cX9_right 94 = .ok (.if_icmp .le 10, 3) := by decide +kernel
theorem dX9_right_97 : decode cX9_right 97 = .ok (.iload 6, 2) := by decide +kernel
theorem dX9_right_99 : decode cX9_right 99 = .ok (.istore_n 3, 1) := by decide +kernel
theorem dX9_right_100 : decode cX9_right 100 = .ok (.iload 5, 2) := by decide +kernel
theorem dX9_right_102 : decode cX9_right 102 = .ok (.istore 4, 2) := by decide +kernel
theorem dX9_right_104 : decode cX9_right 104 = .ok (.iinc 5 1, 3) := by decide +kernel
theorem dX9_right_107 : decode cX9_right 107 = .ok (.goto (-68), 3) := by decide +kernel
theorem dX9_right_110 : decode cX9_right 110 = .ok (.iload_n 2, 1) := by decide +kernel
theorem dX9_right_111 : decode cX9_right 111 = .ok (.ifCond .eq 7, 3) := by decide +kernel
theorem dX9_right_114 : decode cX9_right 114 = .ok (.iload_n 3, 1) := by decide +kernel
theorem dX9_right_115 : decode cX9_right 115 = .ok (.goto 5, 3) := by decide +kernel
theorem dX9_right_118 : decode cX9_right 118 = .ok (.iload 4, 2) := by decide +kernel
theorem dX9_right_120 : decode cX9_right 120 = .ok (.ireturn, 1) := by decide +kernel
theorem dX9_fewest_0 : decode cX9_fewest 0 = .ok (.aload_n 0, 1) := by decide +kernel
theorem dX9_fewest_1 : decode cX9_fewest 1 = .ok (.invokevirtual 252, 3) := by decide +kernel
theorem dX9_fewest_4 : decode cX9_fewest 4 = .ok (.aload_n 0, 1) := by decide +kernel
theorem dX9_fewest_5 : decode cX9_fewest 5 = .ok (.getfield 57, 3) := by decide +kernel
theorem dX9_fewest_8 : decode cX9_fewest 8 = .ok (.invokevirtual 284, 3) := by decide +kernel
theorem dX9_fewest_11 : decode cX9_fewest 11 = .ok (.ireturn, 1) := by decide +kernel
theorem dX9_alone_0 : decode cX9_alone 0 = .ok (.aload_n 0, 1) := by decide +kernel
theorem dX9_alone_1 : decode cX9_alone 1 = .ok (.getfield 50, 3) := by decide +kernel
theorem dX9_alone_4 : decode cX9_alone 4 = .ok (.aload_n 0, 1) := by decide +kernel
theorem dX9_alone_5 : decode cX9_alone 5 = .ok (.getfield 20, 3) := by decide +kernel
theorem dX9_alone_8 : decode cX9_alone 8 = .ok (.aload_n 0, 1) := by decide +kernel
theorem dX9_alone_9 : decode cX9_alone 9 = .ok (.getfield 30, 3) := by decide +kernel
theorem dX9_alone_12 : decode cX9_alone 12 = .ok (.invokevirtual 198, 3) := by decide +kernel
theorem dX9_alone_15 : decode cX9_alone 15 = .ok (.iconst 0, 1) := by decide +kernel
theorem dX9_alone_16 : decode cX9_alone 16 = .ok (.istore_n 1, 1) := by decide +kernel
theorem dX9_alone_17 : decode cX9_alone 17 = .ok (.iconst 0, 1) := by decide +kernel
theorem dX9_alone_18 : decode cX9_alone 18 = .ok (.istore_n 2, 1) := by decide +kernel
theorem dX9_alone_19 : decode cX9_alone 19 = .ok (.iload_n 2, 1) := by decide +kernel
theorem dX9_alone_20 : decode cX9_alone 20 = .ok (.aload_n 0, 1) := by decide +kernel
theorem dX9_alone_21 : decode cX9_alone 21 = .ok (.getfield 20, 3) := by decide +kernel
theorem dX9_alone_24 : decode cX9_alone 24 = .ok (.getfield 191, 3) := by decide +kernel
theorem dX9_alone_27 : decode cX9_alone 27 = .ok (.if_icmp .ge 29, 3) := by decide +kernel
theorem dX9_alone_30 : decode cX9_alone 30 = .ok (.aload_n 0, 1) := by decide +kernel
theorem dX9_alone_31 : decode cX9_alone 31 = .ok (.getfield 50, 3) := by decide +kernel
theorem dX9_alone_34 : decode cX9_alone 34 = .ok (.getfield 155, 3) := by decide +kernel
theorem dX9_alone_37 : decode cX9_alone 37 = .ok (.iload_n 2, 1) := by decide +kernel
theorem dX9_alone_38 : decode cX9_alone 38 = .ok (.invokestatic 158, 3) := by decide +kernel
theorem dX9_alone_41 : decode cX9_alone 41 = .ok (.ifCond .ne 9, 3) := by decide +kernel
theorem dX9_alone_44 : decode cX9_alone 44 = .ok (.iload_n 1, 1) := by decide +kernel
theorem dX9_alone_45 : decode cX9_alone 45 = .ok (.iconst 1, 1) := by decide +kernel
theorem dX9_alone_46 : decode cX9_alone 46 = .ok (.iload_n 2, 1) := by decide +kernel
theorem dX9_alone_47 : decode cX9_alone 47 = .ok (.ishl, 1) := by decide +kernel
theorem dX9_alone_48 : decode cX9_alone 48 = .ok (.ior, 1) := by decide +kernel
theorem dX9_alone_49 : decode cX9_alone 49 = .ok (.istore_n 1, 1) := by decide +kernel
theorem dX9_alone_50 : decode cX9_alone 50 = .ok (.iinc 2 1, 3) := by decide +kernel
theorem dX9_alone_53 : decode cX9_alone 53 = .ok (.goto (-34), 3) := by decide +kernel
theorem dX9_alone_56 : decode cX9_alone 56 = .ok (.iload_n 1, 1) := by decide +kernel
theorem dX9_alone_57 : decode cX9_alone 57 = .ok (.ireturn, 1) := by decide +kernel
theorem dX9_rivals_0 : decode cX9_rivals 0 = .ok (.aload_n 0, 1) := by decide +kernel
theorem dX9_rivals_1 : decode cX9_rivals 1 = .ok (.iload_n 1, 1) := by decide +kernel
theorem dX9_rivals_2 : decode cX9_rivals 2 = .ok (.invokevirtual 139, 3) := by decide +kernel
theorem dX9_rivals_5 : decode cX9_rivals 5 = .ok (.aload_n 0, 1) := by decide +kernel
theorem dX9_rivals_6 : decode cX9_rivals 6 = .ok (.iload_n 2, 1) := by decide +kernel
theorem dX9_rivals_7 : decode cX9_rivals 7 = .ok (.invokevirtual 139, 3) := by decide +kernel
theorem dX9_rivals_10 : decode cX9_rivals 10 = .ok (.iload_n 1, 1) := by decide +kernel
theorem dX9_rivals_11 : decode cX9_rivals 11 = .ok (.iload_n 2, 1) := by decide +kernel
theorem dX9_rivals_12 : decode cX9_rivals 12 = .ok (.if_icmp .ne 13, 3) := by decide +kernel
theorem dX9_rivals_15 : decode cX9_rivals 15 = .ok (.new 114, 3) := by decide +kernel
theorem dX9_rivals_18 : decode cX9_rivals 18 = .ok (.dup, 1) := by decide +kernel
theorem dX9_rivals_19 : decode cX9_rivals 19 = .ok (.ldc 231, 2) := by decide +kernel
theorem dX9_rivals_21 : decode cX9_rivals 21 = .ok (.invokespecial 118, 3) := by decide +kernel
theorem dX9_rivals_24 : decode cX9_rivals 24 = .ok (.athrow, 1) := by decide +kernel
theorem dX9_rivals_25 : decode cX9_rivals 25 = .ok (.aload_n 0, 1) := by decide +kernel
theorem dX9_rivals_26 : decode cX9_rivals 26 = .ok (.getfield 50, 3) := by decide +kernel
theorem dX9_rivals_29 : decode cX9_rivals 29 = .ok (.aload_n 0, 1) := by decide +kernel
theorem dX9_rivals_30 : decode cX9_rivals 30 = .ok (.getfield 20, 3) := by decide +kernel
theorem dX9_rivals_33 : decode cX9_rivals 33 = .ok (.aload_n 0, 1) := by decide +kernel
theorem dX9_rivals_34 : decode cX9_rivals 34 = .ok (.getfield 30, 3) := by decide +kernel
theorem dX9_rivals_37 : decode cX9_rivals 37 = .ok (.invokevirtual 198, 3) := by decide +kernel
theorem dX9_rivals_40 : decode cX9_rivals 40 = .ok (.aload_n 0, 1) := by decide +kernel
theorem dX9_rivals_41 : decode cX9_rivals 41 = .ok (.getfield 50, 3) := by decide +kernel
theorem dX9_rivals_44 : decode cX9_rivals 44 = .ok (.getfield 155, 3) := by decide +kernel
theorem dX9_rivals_47 : decode cX9_rivals 47 = .ok (.iload_n 1, 1) := by decide +kernel
theorem dX9_rivals_48 : decode cX9_rivals 48 = .ok (.invokestatic 158, 3) := by decide +kernel
theorem dX9_rivals_51 : decode cX9_rivals 51 = .ok (.aload_n 0, 1) := by decide +kernel
theorem dX9_rivals_52 : decode cX9_rivals 52 = .ok (.getfield 50, 3) := by decide +kernel
theorem dX9_rivals_55 : decode cX9_rivals 55 = .ok (.getfield 155, 3) := by decide +kernel
theorem dX9_rivals_58 : decode cX9_rivals 58 = .ok (.iload_n 2, 1) := by decide +kernel
theorem dX9_rivals_59 : decode cX9_rivals 59 = .ok (.invokestatic 158, 3) := by decide +kernel
theorem dX9_rivals_62 : decode cX9_rivals 62 = .ok (.iand, 1) := by decide +kernel
theorem dX9_rivals_63 : decode cX9_rivals 63 = .ok (.ireturn, 1) := by decide +kernel
theorem dX9_group_0 : decode cX9_group 0 = .ok (.iload_n 1, 1) := by decide +kernel
theorem dX9_group_1 : decode cX9_group 1 = .ok (.ifCond .lt 9, 3) := by decide +kernel
theorem dX9_group_4 : decode cX9_group 4 = .ok (.iload_n 1, 1) := by decide +kernel
theorem dX9_group_5 : decode cX9_group 5 = .ok (.bipush 10, 2) := by decide +kernel
theorem dX9_group_7 : decode cX9_group 7 = .ok (.if_icmp .lt 14, 3) := by decide +kernel
theorem dX9_group_10 : decode cX9_group 10 = .ok (.new 226, 3) := by decide +kernel
theorem dX9_group_13 : decode cX9_group 13 = .ok (.dup, 1) := by decide +kernel
theorem dX9_group_14 : decode cX9_group 14 = .ok (.ldc_w 287, 3) := by decide +kernel
theorem dX9_group_17 : decode cX9_group 17 = .ok (.invokespecial 230, 3) := by decide +kernel
theorem dX9_group_20 : decode cX9_group 20 = .ok (.athrow, 1) := by decide +kernel
theorem dX9_group_21 : decode cX9_group 21 = .ok (.aload_n 0, 1) := by decide +kernel
theorem dX9_group_22 : decode cX9_group 22 = .ok (.aload_n 0, 1) := by decide +kernel
theorem dX9_group_23 : decode cX9_group 23 = .ok (.getfield 20, 3) := by decide +kernel
theorem dX9_group_26 : decode cX9_group 26 = .ok (.invokevirtual 151, 3) := by decide +kernel
theorem dX9_group_29 : decode cX9_group 29 = .ok (.pop, 1) := by decide +kernel
theorem dX9_group_30 : decode cX9_group 30 = .ok (.iconst 0, 1) := by decide +kernel
theorem dX9_group_31 : decode cX9_group 31 = .ok (.istore_n 3, 1) := by decide +kernel
theorem dX9_group_32 : decode cX9_group 32 = .ok (.iconst 0, 1) := by decide +kernel
theorem dX9_group_33 : decode cX9_group 33 = .ok (.istore 4, 2) := by decide +kernel
theorem dX9_group_35 : decode cX9_group 35 = .ok (.iconst 0, 1) := by decide +kernel
theorem dX9_group_36 : decode cX9_group 36 = .ok (.istore 5, 2) := by decide +kernel
theorem dX9_group_38 : decode cX9_group 38 = .ok (.iload 5, 2) := by decide +kernel
theorem dX9_group_40 : decode cX9_group 40 = .ok (.aload_n 0, 1) := by decide +kernel
theorem dX9_group_41 : decode cX9_group 41 = .ok (.getfield 20, 3) := by decide +kernel
theorem dX9_group_44 : decode cX9_group 44 = .ok (.getfield 289, 3) := by decide +kernel
theorem dX9_group_47 : decode cX9_group 47 = .ok (.if_icmp .ge 73, 3) := by decide +kernel
theorem dX9_group_50 : decode cX9_group 50 = .ok (.aload_n 0, 1) := by decide +kernel
theorem dX9_group_51 : decode cX9_group 51 = .ok (.getfield 20, 3) := by decide +kernel
theorem dX9_group_54 : decode cX9_group 54 = .ok (.iload 5, 2) := by decide +kernel
theorem dX9_group_56 : decode cX9_group 56 = .ok (.iconst 2, 1) := by decide +kernel
theorem dX9_group_57 : decode cX9_group 57 = .ok (.invokevirtual 174, 3) := by decide +kernel
theorem dX9_group_60 : decode cX9_group 60 = .ok (.iload_n 1, 1) := by decide +kernel
theorem dX9_group_61 : decode cX9_group 61 = .ok (.if_icmp .ne 53, 3) := by decide +kernel
theorem dX9_group_64 : decode cX9_group 64 = .ok (.aload_n 0, 1) := by decide +kernel
theorem dX9_group_65 : decode cX9_group 65 = .ok (.getfield 50, 3) := by decide +kernel
theorem dX9_group_68 : decode cX9_group 68 = .ok (.getfield 181, 3) := by decide +kernel
theorem dX9_group_71 : decode cX9_group 71 = .ok (.iload 5, 2) := by decide +kernel
theorem dX9_group_73 : decode cX9_group 73 = .ok (.invokestatic 158, 3) := by decide +kernel
theorem dX9_group_76 : decode cX9_group 76 = .ok (.istore 6, 2) := by decide +kernel
theorem dX9_group_78 : decode cX9_group 78 = .ok (.iload_n 3, 1) := by decide +kernel
theorem dX9_group_79 : decode cX9_group 79 = .ok (.iload 6, 2) := by decide +kernel
theorem dX9_group_81 : decode cX9_group 81 = .ok (.iconst (-1), 1) := by decide +kernel
theorem dX9_group_82 : decode cX9_group 82 = .ok (.if_icmp .ne 7, 3) := by decide +kernel
theorem dX9_group_85 : decode cX9_group 85 = .ok (.iconst 0, 1) := by decide +kernel
theorem dX9_group_86 : decode cX9_group 86 = .ok (.goto 7, 3) := by decide +kernel
theorem dX9_group_89 : decode cX9_group 89 = .ok (.iconst 1, 1) := by decide +kernel
theorem dX9_group_90 : decode cX9_group 90 = .ok (.iload 6, 2) := by decide +kernel
theorem dX9_group_92 : decode cX9_group 92 = .ok (.ishl, 1) := by decide +kernel
theorem dX9_group_93 : decode cX9_group 93 = .ok (.ior, 1) := by decide +kernel
theorem dX9_group_94 : decode cX9_group 94 = .ok (.istore_n 3, 1) := by decide +kernel
theorem dX9_group_95 : decode cX9_group 95 = .ok (.iload 4, 2) := by decide +kernel
theorem dX9_group_97 : decode cX9_group 97 = .ok (.iload 6, 2) := by decide +kernel
theorem dX9_group_99 : decode cX9_group 99 = .ok (.iconst (-1), 1) := by decide +kernel
theorem dX9_group_100 : decode cX9_group 100 = .ok (.if_icmp .ne 10, 3) := by decide +kernel
theorem dX9_group_103 : decode cX9_group 103 = .ok (.iconst 1, 1) := by decide +kernel
theorem dX9_group_104 : decode cX9_group 104 = .ok (.iload 5, 2) := by decide +kernel
theorem dX9_group_106 : decode cX9_group 106 = .ok (.ishl, 1) := by decide +kernel
theorem dX9_group_107 : decode cX9_group 107 = .ok (.goto 4, 3) := by decide +kernel
theorem dX9_group_110 : decode cX9_group 110 = .ok (.iconst 0, 1) := by decide +kernel
theorem dX9_group_111 : decode cX9_group 111 = .ok (.ior, 1) := by decide +kernel
theorem dX9_group_112 : decode cX9_group 112 = .ok (.istore 4, 2) := by decide +kernel
theorem dX9_group_114 : decode cX9_group 114 = .ok (.iinc 5 1, 3) := by decide +kernel
theorem dX9_group_117 : decode cX9_group 117 = .ok (.goto (-79), 3) := by decide +kernel
theorem dX9_group_120 : decode cX9_group 120 = .ok (.iload_n 2, 1) := by decide +kernel
theorem dX9_group_121 : decode cX9_group 121 = .ok (.ifCond .eq 8, 3) := by decide +kernel
theorem dX9_group_124 : decode cX9_group 124 = .ok (.iload 4, 2) := by decide +kernel
theorem dX9_group_126 : decode cX9_group 126 = .ok (.goto 4, 3) := by decide +kernel
theorem dX9_group_129 : decode cX9_group 129 = .ok (.iload_n 3, 1) := by decide +kernel
theorem dX9_group_130 : decode cX9_group 130 = .ok (.ireturn, 1) := by decide +kernel
theorem dX9_wants_0 : decode cX9_wants 0 = .ok (.aload_n 0, 1) := by decide +kernel
theorem dX9_wants_1 : decode cX9_wants 1 = .ok (.invokevirtual 292, 3) := by decide +kernel
theorem dX9_wants_4 : decode cX9_wants 4 = .ok (.istore_n 2, 1) := by decide +kernel
theorem dX9_wants_5 : decode cX9_wants 5 = .ok (.iload_n 2, 1) := by decide +kernel
theorem dX9_wants_6 : decode cX9_wants 6 = .ok (.iconst (-1), 1) := by decide +kernel
theorem dX9_wants_7 : decode cX9_wants 7 = .ok (.if_icmp .ne 14, 3) := by decide +kernel
theorem dX9_wants_10 : decode cX9_wants 10 = .ok (.new 114, 3) := by decide +kernel
theorem dX9_wants_13 : decode cX9_wants 13 = .ok (.dup, 1) := by decide +kernel
theorem dX9_wants_14 : decode cX9_wants 14 = .ok (.ldc_w 295, 3) := by decide +kernel
theorem dX9_wants_17 : decode cX9_wants 17 = .ok (.invokespecial 118, 3) := by decide +kernel
theorem dX9_wants_20 : decode cX9_wants 20 = .ok (.athrow, 1) := by decide +kernel
theorem dX9_wants_21 : decode cX9_wants 21 = .ok (.aload_n 0, 1) := by decide +kernel
theorem dX9_wants_22 : decode cX9_wants 22 = .ok (.iload_n 2, 1) := by decide +kernel
theorem dX9_wants_23 : decode cX9_wants 23 = .ok (.invokevirtual 297, 3) := by decide +kernel
theorem dX9_wants_26 : decode cX9_wants 26 = .ok (.lstore_n 3, 1) := by decide +kernel
theorem dX9_wants_27 : decode cX9_wants 27 = .ok (.iload_n 1, 1) := by decide +kernel
theorem dX9_wants_28 : decode cX9_wants 28 = .ok (.ifCond .eq 10, 3) := by decide +kernel
theorem dX9_wants_31 : decode cX9_wants 31 = .ok (.lload_n 3, 1) := by decide +kernel
theorem dX9_wants_32 : decode cX9_wants 32 = .ok (.invokestatic 301, 3) := by decide +kernel
theorem dX9_wants_35 : decode cX9_wants 35 = .ok (.goto 7, 3) := by decide +kernel
theorem dX9_wants_38 : decode cX9_wants 38 = .ok (.lload_n 3, 1) := by decide +kernel
theorem dX9_wants_39 : decode cX9_wants 39 = .ok (.invokestatic 305, 3) := by decide +kernel
theorem dX9_wants_42 : decode cX9_wants 42 = .ok (.ireturn, 1) := by decide +kernel
theorem dX9_send_0 : decode cX9_send 0 = .ok (.aload_n 0, 1) := by decide +kernel
theorem dX9_send_1 : decode cX9_send 1 = .ok (.invokevirtual 292, 3) := by decide +kernel
theorem dX9_send_4 : decode cX9_send 4 = .ok (.istore_n 1, 1) := by decide +kernel
theorem dX9_send_5 : decode cX9_send 5 = .ok (.iload_n 1, 1) := by decide +kernel
theorem dX9_send_6 : decode cX9_send 6 = .ok (.iconst (-1), 1) := by decide +kernel
theorem dX9_send_7 : decode cX9_send 7 = .ok (.if_icmp .ne 14, 3) := by decide +kernel
theorem dX9_send_10 : decode cX9_send 10 = .ok (.new 114, 3) := by decide +kernel
theorem dX9_send_13 : decode cX9_send 13 = .ok (.dup, 1) := by decide +kernel
theorem dX9_send_14 : decode cX9_send 14 = .ok (.ldc_w 295, 3) := by decide +kernel
theorem dX9_send_17 : decode cX9_send 17 = .ok (.invokespecial 118, 3) := by decide +kernel
theorem dX9_send_20 : decode cX9_send 20 = .ok (.athrow, 1) := by decide +kernel
theorem dX9_send_21 : decode cX9_send 21 = .ok (.aload_n 0, 1) := by decide +kernel
theorem dX9_send_22 : decode cX9_send 22 = .ok (.iload_n 1, 1) := by decide +kernel
theorem dX9_send_23 : decode cX9_send 23 = .ok (.invokevirtual 297, 3) := by decide +kernel
theorem dX9_send_26 : decode cX9_send 26 = .ok (.lstore_n 2, 1) := by decide +kernel
theorem dX9_send_27 : decode cX9_send 27 = .ok (.lload_n 2, 1) := by decide +kernel
theorem dX9_send_28 : decode cX9_send 28 = .ok (.invokestatic 305, 3) := by decide +kernel
theorem dX9_send_31 : decode cX9_send 31 = .ok (.istore 4, 2) := by decide +kernel
theorem dX9_send_33 : decode cX9_send 33 = .ok (.iload 4, 2) := by decide +kernel
theorem dX9_send_35 : decode cX9_send 35 = .ok (.iconst 2, 1) := by decide +kernel
theorem dX9_send_36 : decode cX9_send 36 = .ok (.if_icmp .ge 5, 3) := by decide +kernel
theorem dX9_send_39 : decode cX9_send 39 = .ok (.iconst (-1), 1) := by decide +kernel
theorem dX9_send_40 : decode cX9_send 40 = .ok (.ireturn, 1) := by decide +kernel
theorem dX9_send_41 : decode cX9_send 41 = .ok (.iconst (-1), 1) := by decide +kernel
theorem dX9_send_42 : decode cX9_send 42 = .ok (.istore 5, 2) := by decide +kernel
theorem dX9_send_44 : decode cX9_send 44 = .ok (.bipush 65, 2) := by decide +kernel
theorem dX9_send_46 : decode cX9_send 46 = .ok (.istore 6, 2) := by decide +kernel
theorem dX9_send_48 : decode cX9_send 48 = .ok (.iconst 0, 1) := by decide +kernel
theorem dX9_send_49 : decode cX9_send 49 = .ok (.istore 7, 2) := by decide +kernel
theorem dX9_send_51 : decode cX9_send 51 = .ok (.iload 7, 2) := by decide +kernel
theorem dX9_send_53 : decode cX9_send 53 = .ok (.aload_n 0, 1) := by decide +kernel
theorem dX9_send_54 : decode cX9_send 54 = .ok (.getfield 20, 3) := by decide +kernel
theorem dX9_send_57 : decode cX9_send 57 = .ok (.getfield 289, 3) := by decide +kernel
theorem dX9_send_60 : decode cX9_send 60 = .ok (.if_icmp .ge 56, 3) := by decide +kernel
theorem dX9_send_63 : decode cX9_send 63 = .ok (.lload_n 2, 1) := by decide +kernel
theorem dX9_send_64 : decode cX9_send 64 = .ok (.aload_n 0, 1) := by decide +kernel
theorem dX9_send_65 : decode cX9_send 65 = .ok (.getfield 20, 3) := by decide +kernel
theorem dX9_send_68 : decode cX9_send 68 = .ok (.iload 7, 2) := by decide +kernel
theorem dX9_send_70 : decode cX9_send 70 = .ok (.iconst 4, 1) := by decide +kernel
theorem dX9_send_71 : decode cX9_send 71 = .ok (.invokevirtual 174, 3) := by decide +kernel
theorem dX9_send_74 : decode cX9_send 74 = .ok (.invokestatic 310, 3) := by decide +kernel
theorem dX9_send_77 : decode cX9_send 77 = .ok (.land, 1) := by decide +kernel
theorem dX9_send_78 : decode cX9_send 78 = .ok (.invokestatic 305, 3) := by decide +kernel
theorem dX9_send_81 : decode cX9_send 81 = .ok (.istore 8, 2) := by decide +kernel
theorem dX9_send_83 : decode cX9_send 83 = .ok (.iload 8, 2) := by decide +kernel
theorem dX9_send_85 : decode cX9_send 85 = .ok (.iload 4, 2) := by decide +kernel
theorem dX9_send_87 : decode cX9_send 87 = .ok (.iload 8, 2) := by decide +kernel
theorem dX9_send_89 : decode cX9_send 89 = .ok (.isub, 1) := by decide +kernel
theorem dX9_send_90 : decode cX9_send 90 = .ok (.invokestatic 313, 3) := by decide +kernel
theorem dX9_send_93 : decode cX9_send 93 = .ok (.istore 9, 2) := by decide +kernel
theorem dX9_send_95 : decode cX9_send 95 = .ok (.iload 9, 2) := by decide +kernel
theorem dX9_send_97 : decode cX9_send 97 = .ok (.iload 6, 2) := by decide +kernel
theorem dX9_send_99 : decode cX9_send 99 = .ok (.if_icmp .ge 11, 3) := by decide +kernel
theorem dX9_send_102 : decode cX9_send 102 = .ok (.iload 9, 2) := by decide +kernel
theorem dX9_send_104 : decode cX9_send 104 = .ok (.istore 6, 2) := by decide +kernel
theorem dX9_send_106 : decode cX9_send 106 = .ok (.iload 7, 2) := by decide +kernel
theorem dX9_send_108 : decode cX9_send 108 = .ok (.istore 5, 2) := by decide +kernel
theorem dX9_send_110 : decode cX9_send 110 = .ok (.iinc 7 1, 3) := by decide +kernel
theorem dX9_send_113 : decode cX9_send 113 = .ok (.goto (-62), 3) := by decide +kernel
theorem dX9_send_116 : decode cX9_send 116 = .ok (.iload 5, 2) := by decide +kernel
theorem dX9_send_118 : decode cX9_send 118 = .ok (.ireturn, 1) := by decide +kernel
theorem dX9_takeTold_0 : decode cX9_takeTold 0 = .ok (.aload_n 0, 1) := by decide +kernel
theorem dX9_takeTold_1 : decode cX9_takeTold 1 = .ok (.invokevirtual 97, 3) := by decide +kernel
theorem dX9_takeTold_4 : decode cX9_takeTold 4 = .ok (.istore_n 1, 1) := by decide +kernel
theorem dX9_takeTold_5 : decode cX9_takeTold 5 = .ok (.iload_n 1, 1) := by decide +kernel
theorem dX9_takeTold_6 : decode cX9_takeTold 6 = .ok (.bipush 40, 2) := by decide +kernel
theorem dX9_takeTold_8 : decode cX9_takeTold 8 = .ok (.if_icmp .gt 9, 3) := by decide +kernel
theorem dX9_takeTold_11 : decode cX9_takeTold 11 = .ok (.iload_n 1, 1) := by decide +kernel
theorem dX9_takeTold_12 : decode cX9_takeTold 12 = .ok (.iconst 2, 1) := by decide +kernel
theorem dX9_takeTold_13 : decode cX9_takeTold 13 = .ok (.irem, 1) := by decide +kernel
theorem dX9_takeTold_14 : decode cX9_takeTold 14 = .ok (.ifCond .eq 5, 3) := by decide +kernel
theorem dX9_takeTold_17 : decode cX9_takeTold 17 = .ok (.iconst (-1), 1) := by decide +kernel
theorem dX9_takeTold_18 : decode cX9_takeTold 18 = .ok (.ireturn, 1) := by decide +kernel
theorem dX9_takeTold_19 : decode cX9_takeTold 19 = .ok (.iconst 0, 1) := by decide +kernel
theorem dX9_takeTold_20 : decode cX9_takeTold 20 = .ok (.istore_n 2, 1) := by decide +kernel
theorem dX9_takeTold_21 : decode cX9_takeTold 21 = .ok (.iload_n 2, 1) := by decide +kernel
theorem dX9_takeTold_22 : decode cX9_takeTold 22 = .ok (.iload_n 1, 1) := by decide +kernel
theorem dX9_takeTold_23 : decode cX9_takeTold 23 = .ok (.if_icmp .ge 43, 3) := by decide +kernel
theorem dX9_takeTold_26 : decode cX9_takeTold 26 = .ok (.aload_n 0, 1) := by decide +kernel
theorem dX9_takeTold_27 : decode cX9_takeTold 27 = .ok (.getfield 9, 3) := by decide +kernel
theorem dX9_takeTold_30 : decode cX9_takeTold 30 = .ok (.iload_n 2, 1) := by decide +kernel
theorem dX9_takeTold_31 : decode cX9_takeTold 31 = .ok (.invokestatic 158, 3) := by decide +kernel
theorem dX9_takeTold_34 : decode cX9_takeTold 34 = .ok (.aload_n 0, 1) := by decide +kernel
theorem dX9_takeTold_35 : decode cX9_takeTold 35 = .ok (.getfield 20, 3) := by decide +kernel
theorem dX9_takeTold_38 : decode cX9_takeTold 38 = .ok (.getfield 289, 3) := by decide +kernel
theorem dX9_takeTold_41 : decode cX9_takeTold 41 = .ok (.if_icmp .ge 17, 3) := by decide +kernel
theorem dX9_takeTold_44 : decode cX9_takeTold 44 = .ok (.aload_n 0, 1) := by decide +kernel
theorem dX9_takeTold_45 : decode cX9_takeTold 45 = .ok (.getfield 9, 3) := by decide +kernel
theorem dX9_takeTold_48 : decode cX9_takeTold 48 = .ok (.iload_n 2, 1) := by decide +kernel
theorem dX9_takeTold_49 : decode cX9_takeTold 49 = .ok (.iconst 1, 1) := by decide +kernel
theorem dX9_takeTold_50 : decode cX9_takeTold 50 = .ok (.iadd, 1) := by decide +kernel
theorem dX9_takeTold_51 : decode cX9_takeTold 51 = .ok (.invokestatic 158, 3) := by decide +kernel
theorem dX9_takeTold_54 : decode cX9_takeTold 54 = .ok (.iconst 1, 1) := by decide +kernel
theorem dX9_takeTold_55 : decode cX9_takeTold 55 = .ok (.if_icmp .le 5, 3) := by decide +kernel
theorem dX9_takeTold_58 : decode cX9_takeTold 58 = .ok (.iconst (-1), 1) := by decide +kernel
theorem dX9_takeTold_59 : decode cX9_takeTold 59 = .ok (.ireturn, 1) := by decide +kernel
theorem dX9_takeTold_60 : decode cX9_takeTold 60 = .ok (.iinc 2 2, 3) := by decide +kernel
theorem dX9_takeTold_63 : decode cX9_takeTold 63 = .ok (.goto (-42), 3) := by decide +kernel
theorem dX9_takeTold_66 : decode cX9_takeTold 66 = .ok (.iload_n 1, 1) := by decide +kernel
theorem dX9_takeTold_67 : decode cX9_takeTold 67 = .ok (.ireturn, 1) := by decide +kernel
theorem dX9_fittingSets_0 : decode cX9_fittingSets 0 = .ok (.ldc2_w 318, 3) := by decide +kernel
theorem dX9_fittingSets_3 : decode cX9_fittingSets 3 = .ok (.lstore_n 2, 1) := by decide +kernel
theorem dX9_fittingSets_4 : decode cX9_fittingSets 4 = .ok (.iconst 0, 1) := by decide +kernel
theorem dX9_fittingSets_5 : decode cX9_fittingSets 5 = .ok (.istore 4, 2) := by decide +kernel
theorem dX9_fittingSets_7 : decode cX9_fittingSets 7 = .ok (.iload 4, 2) := by decide +kernel
theorem dX9_fittingSets_9 : decode cX9_fittingSets 9 = .ok (.iload_n 1, 1) := by decide +kernel
theorem dX9_fittingSets_10 : decode cX9_fittingSets 10 = .ok (.if_icmp .ge 60, 3) := by decide +kernel
theorem dX9_fittingSets_13 : decode cX9_fittingSets 13 = .ok (.aload_n 0, 1) := by decide +kernel
theorem dX9_fittingSets_14 : decode cX9_fittingSets 14 = .ok (.getfield 20, 3) := by decide +kernel
theorem dX9_fittingSets_17 : decode cX9_fittingSets 17 = .ok (.aload_n 0, 1) := by decide +kernel
theorem dX9_fittingSets_18 : decode cX9_fittingSets 18 = .ok (.getfield 9, 3) := by decide +kernel
theorem dX9_fittingSets_21 : decode cX9_fittingSets 21 = .ok (.iload 4, 2) := by decide +kernel
theorem dX9_fittingSets_23 : decode cX9_fittingSets 23 = .ok (.invokestatic 158, 3) := by decide +kernel
theorem dX9_fittingSets_26 : decode cX9_fittingSets 26 = .ok (.iconst 4, 1) := by decide +kernel
theorem dX9_fittingSets_27 : decode cX9_fittingSets 27 = .ok (.invokevirtual 174, 3) := by decide +kernel
theorem dX9_fittingSets_30 : decode cX9_fittingSets 30 = .ok (.invokestatic 310, 3) := by decide +kernel
theorem dX9_fittingSets_33 : decode cX9_fittingSets 33 = .ok (.lstore 5, 2) := by decide +kernel
theorem dX9_fittingSets_35 : decode cX9_fittingSets 35 = .ok (.lload_n 2, 1) := by decide +kernel
theorem dX9_fittingSets_36 : decode cX9_fittingSets 36 = .ok (.aload_n 0, 1) := by decide +kernel
theorem dX9_fittingSets_37 : decode cX9_fittingSets 37 = .ok (.getfield 9, 3) := by decide +kernel
theorem dX9_fittingSets_40 : decode cX9_fittingSets 40 = .ok (.iload 4, 2) := by decide +kernel
theorem dX9_fittingSets_42 : decode cX9_fittingSets 42 = .ok (.iconst 1, 1) := by decide +kernel
theorem dX9_fittingSets_43 : decode cX9_fittingSets 43 = .ok (.iadd, 1) := by decide +kernel
theorem dX9_fittingSets_44 : decode cX9_fittingSets 44 = .ok (.invokestatic 158, 3) := by decide +kernel
theorem dX9_fittingSets_47 : decode cX9_fittingSets 47 = .ok (.iconst 1, 1) := by decide +kernel
theorem dX9_fittingSets_48 : decode cX9_fittingSets 48 = .ok (.if_icmp .ne 8, 3) := by decide +kernel
theorem dX9_fittingSets_51 : decode cX9_fittingSets 51 = .ok (.lload 5, 2) := by decide +kernel
theorem dX9_fittingSets_53 : decode cX9_fittingSets 53 = .ok (.goto 9, 3) := by decide +kernel
theorem dX9_fittingSets_56 : decode cX9_fittingSets 56 = .ok (.lload 5, 2) := by decide +kernel
theorem dX9_fittingSets_58 : decode cX9_fittingSets 58 = .ok (.ldc2_w 318, 3) := by decide +kernel
theorem dX9_fittingSets_61 : decode cX9_fittingSets 61 = .ok (.lxor, 1) := by decide +kernel
theorem dX9_fittingSets_62 : decode cX9_fittingSets 62 = .ok (.land, 1) := by decide +kernel
theorem dX9_fittingSets_63 : decode cX9_fittingSets 63 = .ok (.lstore_n 2, 1) := by decide +kernel
theorem dX9_fittingSets_64 : decode cX9_fittingSets 64 = .ok (.iinc 4 2, 3) := by decide +kernel
theorem dX9_fittingSets_67 : decode cX9_fittingSets 67 = .ok (.goto (-60), 3) := by decide +kernel
theorem dX9_fittingSets_70 : decode cX9_fittingSets 70 = .ok (.lload_n 2, 1) := by decide +kernel
theorem dX9_fittingSets_71 : decode cX9_fittingSets 71 = .ok (.lreturn, 1) := by decide +kernel
theorem dX9_setsWithin_0 : decode cX9_setsWithin 0 = .ok (.lconst 0, 1) := by decide +kernel
theorem dX9_setsWithin_1 : decode cX9_setsWithin 1 = .ok (.lstore_n 1, 1) := by decide +kernel
theorem dX9_setsWithin_2 : decode cX9_setsWithin 2 = .ok (.iconst 0, 1) := by decide +kernel
theorem dX9_setsWithin_3 : decode cX9_setsWithin 3 = .ok (.istore_n 3, 1) := by decide +kernel
theorem dX9_setsWithin_4 : decode cX9_setsWithin 4 = .ok (.iload_n 3, 1) := by decide +kernel
theorem dX9_setsWithin_5 : decode cX9_setsWithin 5 = .ok (.bipush 64, 2) := by decide +kernel
theorem dX9_setsWithin_7 : decode cX9_setsWithin 7 = .ok (.if_icmp .ge 23, 3) := by decide +kernel
theorem dX9_setsWithin_10 : decode cX9_setsWithin 10 = .ok (.iload_n 3, 1) := by decide +kernel
theorem dX9_setsWithin_11 : decode cX9_setsWithin 11 = .ok (.iload_n 0, 1) := by decide +kernel
theorem dX9_setsWithin_12 : decode cX9_setsWithin 12 = .ok (.iconst (-1), 1) := by decide +kernel
theorem dX9_setsWithin_13 : decode cX9_setsWithin 13 = .ok (.ixor, 1) := by decide +kernel
theorem dX9_setsWithin_14 : decode cX9_setsWithin 14 = .ok (.iand, 1) := by decide +kernel
theorem dX9_setsWithin_15 : decode cX9_setsWithin 15 = .ok (.ifCond .ne 9, 3) := by decide +kernel
theorem dX9_setsWithin_18 : decode cX9_setsWithin 18 = .ok (.lload_n 1, 1) := by decide +kernel
theorem dX9_setsWithin_19 : decode cX9_setsWithin 19 = .ok (.lconst 1, 1) := by decide +kernel
theorem dX9_setsWithin_20 : decode cX9_setsWithin 20 = .ok (.iload_n 3, 1) := by decide +kernel
theorem dX9_setsWithin_21 : decode cX9_setsWithin 21 = .ok (.lshl, 1) := by decide +kernel
theorem dX9_setsWithin_22 : decode cX9_setsWithin 22 = .ok (.lor, 1) := by decide +kernel
theorem dX9_setsWithin_23 : decode cX9_setsWithin 23 = .ok (.lstore_n 1, 1) := by decide +kernel
theorem dX9_setsWithin_24 : decode cX9_setsWithin 24 = .ok (.iinc 3 1, 3) := by decide +kernel
theorem dX9_setsWithin_27 : decode cX9_setsWithin 27 = .ok (.goto (-23), 3) := by decide +kernel
theorem dX9_setsWithin_30 : decode cX9_setsWithin 30 = .ok (.lload_n 1, 1) := by decide +kernel
theorem dX9_setsWithin_31 : decode cX9_setsWithin 31 = .ok (.lreturn, 1) := by decide +kernel
theorem dX9_smallestOf_0 : decode cX9_smallestOf 0 = .ok (.iconst (-1), 1) := by decide +kernel
theorem dX9_smallestOf_1 : decode cX9_smallestOf 1 = .ok (.istore_n 2, 1) := by decide +kernel
theorem dX9_smallestOf_2 : decode cX9_smallestOf 2 = .ok (.iconst 0, 1) := by decide +kernel
theorem dX9_smallestOf_3 : decode cX9_smallestOf 3 = .ok (.istore_n 3, 1) := by decide +kernel
theorem dX9_smallestOf_4 : decode cX9_smallestOf 4 = .ok (.iload_n 3, 1) := by decide +kernel
theorem dX9_smallestOf_5 : decode cX9_smallestOf 5 = .ok (.bipush 64, 2) := by decide +kernel
theorem dX9_smallestOf_7 : decode cX9_smallestOf 7 = .ok (.if_icmp .ge 49, 3) := by decide +kernel
theorem dX9_smallestOf_10 : decode cX9_smallestOf 10 = .ok (.lload_n 0, 1) := by decide +kernel
theorem dX9_smallestOf_11 : decode cX9_smallestOf 11 = .ok (.iload_n 3, 1) := by decide +kernel
theorem dX9_smallestOf_12 : decode cX9_smallestOf 12 = .ok (.lushr, 1) := by decide +kernel
theorem dX9_smallestOf_13 : decode cX9_smallestOf 13 = .ok (.lconst 1, 1) := by decide +kernel
theorem dX9_smallestOf_14 : decode cX9_smallestOf 14 = .ok (.land, 1) := by decide +kernel
theorem dX9_smallestOf_15 : decode cX9_smallestOf 15 = .ok (.lconst 1, 1) := by decide +kernel
theorem dX9_smallestOf_16 : decode cX9_smallestOf 16 = .ok (.lcmp, 1) := by decide +kernel
theorem dX9_smallestOf_17 : decode cX9_smallestOf 17 = .ok (.ifCond .ne 7, 3) := by decide +kernel
theorem dX9_smallestOf_20 : decode cX9_smallestOf 20 = .ok (.iconst 1, 1) := by decide +kernel
theorem dX9_smallestOf_21 : decode cX9_smallestOf 21 = .ok (.goto 4, 3) := by decide +kernel
theorem dX9_smallestOf_24 : decode cX9_smallestOf 24 = .ok (.iconst 0, 1) := by decide +kernel
theorem dX9_smallestOf_25 : decode cX9_smallestOf 25 = .ok (.istore 4, 2) := by decide +kernel
theorem dX9_smallestOf_27 : decode cX9_smallestOf 27 = .ok (.iload 4, 2) := by decide +kernel
theorem dX9_smallestOf_29 : decode cX9_smallestOf 29 = .ok (.ifCond .eq 21, 3) := by decide +kernel
theorem dX9_smallestOf_32 : decode cX9_smallestOf 32 = .ok (.iload_n 2, 1) := by decide +kernel
theorem dX9_smallestOf_33 : decode cX9_smallestOf 33 = .ok (.iconst (-1), 1) := by decide +kernel
theorem dX9_smallestOf_34 : decode cX9_smallestOf 34 = .ok (.if_icmp .eq 14, 3) := by decide +kernel
theorem dX9_smallestOf_37 : decode cX9_smallestOf 37 = .ok (.iload_n 3, 1) := by decide +kernel
theorem dX9_smallestOf_38 : decode cX9_smallestOf 38 = .ok (.invokestatic 320, 3) := by decide +kernel
theorem dX9_smallestOf_41 : decode cX9_smallestOf 41 = .ok (.iload_n 2, 1) := by decide +kernel
theorem dX9_smallestOf_42 : decode cX9_smallestOf 42 = .ok (.invokestatic 320, 3) := by decide +kernel
theorem dX9_smallestOf_45 : decode cX9_smallestOf 45 = .ok (.if_icmp .ge 5, 3) := by decide +kernel
theorem dX9_smallestOf_48 : decode cX9_smallestOf 48 = .ok (.iload_n 3, 1) := by decide +kernel
theorem dX9_smallestOf_49 : decode cX9_smallestOf 49 = .ok (.istore_n 2, 1) := by decide +kernel
theorem dX9_smallestOf_50 : decode cX9_smallestOf 50 = .ok (.iinc 3 1, 3) := by decide +kernel
theorem dX9_smallestOf_53 : decode cX9_smallestOf 53 = .ok (.goto (-49), 3) := by decide +kernel
theorem dX9_smallestOf_56 : decode cX9_smallestOf 56 = .ok (.iload_n 2, 1) := by decide +kernel
theorem dX9_smallestOf_57 : decode cX9_smallestOf 57 = .ok (.ireturn, 1) := by decide +kernel
theorem dX9_about_0 : decode cX9_about 0 = .ok (.aload_n 0, 1) := by decide +kernel
theorem dX9_about_1 : decode cX9_about 1 = .ok (.iload_n 1, 1) := by decide +kernel
theorem dX9_about_2 : decode cX9_about 2 = .ok (.invokevirtual 169, 3) := by decide +kernel
theorem dX9_about_5 : decode cX9_about 5 = .ok (.iload_n 3, 1) := by decide +kernel
theorem dX9_about_6 : decode cX9_about 6 = .ok (.ifCond .lt 8, 3) := by decide +kernel
theorem dX9_about_9 : decode cX9_about 9 = .ok (.iload_n 3, 1) := by decide +kernel
theorem dX9_about_10 : decode cX9_about 10 = .ok (.iconst 2, 1) := by decide +kernel
theorem dX9_about_11 : decode cX9_about 11 = .ok (.if_icmp .le 14, 3) := by decide +kernel
theorem dX9_about_14 : decode cX9_about 14 = .ok (.new 142, 3) := by decide +kernel
theorem dX9_about_17 : decode cX9_about 17 = .ok (.dup, 1) := by decide +kernel
theorem dX9_about_18 : decode cX9_about 18 = .ok (.ldc_w 324, 3) := by decide +kernel
theorem dX9_about_21 : decode cX9_about 21 = .ok (.invokespecial 146, 3) := by decide +kernel
theorem dX9_about_24 : decode cX9_about 24 = .ok (.athrow, 1) := by decide +kernel
theorem dX9_about_25 : decode cX9_about 25 = .ok (.iload_n 2, 1) := by decide +kernel
theorem dX9_about_26 : decode cX9_about 26 = .ok (.iconst 1, 1) := by decide +kernel
theorem dX9_about_27 : decode cX9_about 27 = .ok (.aload_n 0, 1) := by decide +kernel
theorem dX9_about_28 : decode cX9_about 28 = .ok (.getfield 20, 3) := by decide +kernel
theorem dX9_about_31 : decode cX9_about 31 = .ok (.getfield 191, 3) := by decide +kernel
theorem dX9_about_34 : decode cX9_about 34 = .ok (.ishl, 1) := by decide +kernel
theorem dX9_about_35 : decode cX9_about 35 = .ok (.iconst 1, 1) := by decide +kernel
theorem dX9_about_36 : decode cX9_about 36 = .ok (.isub, 1) := by decide +kernel
theorem dX9_about_37 : decode cX9_about 37 = .ok (.iand, 1) := by decide +kernel
theorem dX9_about_38 : decode cX9_about 38 = .ok (.istore 4, 2) := by decide +kernel
theorem dX9_about_40 : decode cX9_about 40 = .ok (.iconst 0, 1) := by decide +kernel
theorem dX9_about_41 : decode cX9_about 41 = .ok (.istore 5, 2) := by decide +kernel
theorem dX9_about_43 : decode cX9_about 43 = .ok (.bipush 63, 2) := by decide +kernel
theorem dX9_about_45 : decode cX9_about 45 = .ok (.istore 6, 2) := by decide +kernel
theorem dX9_about_47 : decode cX9_about 47 = .ok (.iconst 0, 1) := by decide +kernel
theorem dX9_about_48 : decode cX9_about 48 = .ok (.istore 7, 2) := by decide +kernel
theorem dX9_about_50 : decode cX9_about 50 = .ok (.aload_n 0, 1) := by decide +kernel
theorem dX9_about_51 : decode cX9_about 51 = .ok (.getfield 24, 3) := by decide +kernel
theorem dX9_about_54 : decode cX9_about 54 = .ok (.aload_n 0, 1) := by decide +kernel
theorem dX9_about_55 : decode cX9_about 55 = .ok (.getfield 20, 3) := by decide +kernel
theorem dX9_about_58 : decode cX9_about 58 = .ok (.invokevirtual 93, 3) := by decide +kernel
theorem dX9_about_61 : decode cX9_about 61 = .ok (.iconst 0, 1) := by decide +kernel
theorem dX9_about_62 : decode cX9_about 62 = .ok (.istore 8, 2) := by decide +kernel
theorem dX9_about_64 : decode cX9_about 64 = .ok (.iload 8, 2) := by decide +kernel
theorem dX9_about_66 : decode cX9_about 66 = .ok (.bipush 64, 2) := by decide +kernel
theorem dX9_about_68 : decode cX9_about 68 = .ok (.if_icmp .ge 51, 3) := by decide +kernel
theorem dX9_about_71 : decode cX9_about 71 = .ok (.aload_n 0, 1) := by decide +kernel
theorem dX9_about_72 : decode cX9_about 72 = .ok (.getfield 24, 3) := by decide +kernel
theorem dX9_about_75 : decode cX9_about 75 = .ok (.iload_n 1, 1) := by decide +kernel
theorem dX9_about_76 : decode cX9_about 76 = .ok (.iconst 4, 1) := by decide +kernel
theorem dX9_about_77 : decode cX9_about 77 = .ok (.iload 8, 2) := by decide +kernel
theorem dX9_about_79 : decode cX9_about 79 = .ok (.invokevirtual 223, 3) := by decide +kernel
theorem dX9_about_82 : decode cX9_about 82 = .ok (.aload_n 0, 1) := by decide +kernel
theorem dX9_about_83 : decode cX9_about 83 = .ok (.aload_n 0, 1) := by decide +kernel
theorem dX9_about_84 : decode cX9_about 84 = .ok (.getfield 24, 3) := by decide +kernel
theorem dX9_about_87 : decode cX9_about 87 = .ok (.iload_n 1, 1) := by decide +kernel
theorem dX9_about_88 : decode cX9_about 88 = .ok (.invokevirtual 177, 3) := by decide +kernel
theorem dX9_about_91 : decode cX9_about 91 = .ok (.iload 4, 2) := by decide +kernel
theorem dX9_about_93 : decode cX9_about 93 = .ok (.if_icmp .ne 20, 3) := by decide +kernel
theorem dX9_about_96 : decode cX9_about 96 = .ok (.iinc 5 1, 3) := by decide +kernel
theorem dX9_about_99 : decode cX9_about 99 = .ok (.iload 6, 2) := by decide +kernel
theorem dX9_about_101 : decode cX9_about 101 = .ok (.iload 8, 2) := by decide +kernel
theorem dX9_about_103 : decode cX9_about 103 = .ok (.iand, 1) := by decide +kernel
theorem dX9_about_104 : decode cX9_about 104 = .ok (.istore 6, 2) := by decide +kernel
theorem dX9_about_106 : decode cX9_about 106 = .ok (.iload 7, 2) := by decide +kernel
theorem dX9_about_108 : decode cX9_about 108 = .ok (.iload 8, 2) := by decide +kernel
theorem dX9_about_110 : decode cX9_about 110 = .ok (.ior, 1) := by decide +kernel
theorem dX9_about_111 : decode cX9_about 111 = .ok (.istore 7, 2) := by decide +kernel
theorem dX9_about_113 : decode cX9_about 113 = .ok (.iinc 8 1, 3) := by decide +kernel
theorem dX9_about_116 : decode cX9_about 116 = .ok (.goto (-52), 3) := by decide +kernel
theorem dX9_about_119 : decode cX9_about 119 = .ok (.iload_n 3, 1) := by decide +kernel
theorem dX9_about_120 : decode cX9_about 120 = .ok (.ifCond .eq 8, 3) := by decide +kernel
theorem dX9_about_123 : decode cX9_about 123 = .ok (.iload 5, 2) := by decide +kernel
theorem dX9_about_125 : decode cX9_about 125 = .ok (.ifCond .ne 6, 3) := by decide +kernel
theorem dX9_about_128 : decode cX9_about 128 = .ok (.iload 5, 2) := by decide +kernel
theorem dX9_about_130 : decode cX9_about 130 = .ok (.ireturn, 1) := by decide +kernel
theorem dX9_about_131 : decode cX9_about 131 = .ok (.iload_n 3, 1) := by decide +kernel
theorem dX9_about_132 : decode cX9_about 132 = .ok (.iconst 1, 1) := by decide +kernel
theorem dX9_about_133 : decode cX9_about 133 = .ok (.if_icmp .ne 8, 3) := by decide +kernel
theorem dX9_about_136 : decode cX9_about 136 = .ok (.iload 6, 2) := by decide +kernel
theorem dX9_about_138 : decode cX9_about 138 = .ok (.goto 5, 3) := by decide +kernel
theorem dX9_about_141 : decode cX9_about 141 = .ok (.iload 7, 2) := by decide +kernel
theorem dX9_about_143 : decode cX9_about 143 = .ok (.ireturn, 1) := by decide +kernel
theorem dX9_ahead_0 : decode cX9_ahead 0 = .ok (.aload_n 0, 1) := by decide +kernel
theorem dX9_ahead_1 : decode cX9_ahead 1 = .ok (.iload_n 1, 1) := by decide +kernel
theorem dX9_ahead_2 : decode cX9_ahead 2 = .ok (.invokevirtual 139, 3) := by decide +kernel
theorem dX9_ahead_5 : decode cX9_ahead 5 = .ok (.iload_n 2, 1) := by decide +kernel
theorem dX9_ahead_6 : decode cX9_ahead 6 = .ok (.invokestatic 326, 3) := by decide +kernel
theorem dX9_ahead_9 : decode cX9_ahead 9 = .ok (.iload_n 3, 1) := by decide +kernel
theorem dX9_ahead_10 : decode cX9_ahead 10 = .ok (.ifCond .lt 8, 3) := by decide +kernel
theorem dX9_ahead_13 : decode cX9_ahead 13 = .ok (.iload_n 3, 1) := by decide +kernel
theorem dX9_ahead_14 : decode cX9_ahead 14 = .ok (.iconst 1, 1) := by decide +kernel
theorem dX9_ahead_15 : decode cX9_ahead 15 = .ok (.if_icmp .le 14, 3) := by decide +kernel
theorem dX9_ahead_18 : decode cX9_ahead 18 = .ok (.new 142, 3) := by decide +kernel
theorem dX9_ahead_21 : decode cX9_ahead 21 = .ok (.dup, 1) := by decide +kernel
theorem dX9_ahead_22 : decode cX9_ahead 22 = .ok (.ldc_w 329, 3) := by decide +kernel
theorem dX9_ahead_25 : decode cX9_ahead 25 = .ok (.invokespecial 146, 3) := by decide +kernel
theorem dX9_ahead_28 : decode cX9_ahead 28 = .ok (.athrow, 1) := by decide +kernel
theorem dX9_ahead_29 : decode cX9_ahead 29 = .ok (.aload_n 0, 1) := by decide +kernel
theorem dX9_ahead_30 : decode cX9_ahead 30 = .ok (.getfield 24, 3) := by decide +kernel
theorem dX9_ahead_33 : decode cX9_ahead 33 = .ok (.aload_n 0, 1) := by decide +kernel
theorem dX9_ahead_34 : decode cX9_ahead 34 = .ok (.getfield 20, 3) := by decide +kernel
theorem dX9_ahead_37 : decode cX9_ahead 37 = .ok (.invokevirtual 93, 3) := by decide +kernel
theorem dX9_ahead_40 : decode cX9_ahead 40 = .ok (.iconst 0, 1) := by decide +kernel
theorem dX9_ahead_41 : decode cX9_ahead 41 = .ok (.istore 4, 2) := by decide +kernel
theorem dX9_ahead_43 : decode cX9_ahead 43 = .ok (.iload 4, 2) := by decide +kernel
theorem dX9_ahead_45 : decode cX9_ahead 45 = .ok (.iload_n 2, 1) := by decide +kernel
theorem dX9_ahead_46 : decode cX9_ahead 46 = .ok (.if_icmp .ge 26, 3) := by decide +kernel
theorem dX9_ahead_49 : decode cX9_ahead 49 = .ok (.aload_n 0, 1) := by decide +kernel
theorem dX9_ahead_50 : decode cX9_ahead 50 = .ok (.getfield 50, 3) := by decide +kernel
theorem dX9_ahead_53 : decode cX9_ahead 53 = .ok (.aload_n 0, 1) := by decide +kernel
theorem dX9_ahead_54 : decode cX9_ahead 54 = .ok (.getfield 24, 3) := by decide +kernel
theorem dX9_ahead_57 : decode cX9_ahead 57 = .ok (.aload_n 0, 1) := by decide +kernel
theorem dX9_ahead_58 : decode cX9_ahead 58 = .ok (.getfield 30, 3) := by decide +kernel
theorem dX9_ahead_61 : decode cX9_ahead 61 = .ok (.iconst 0, 1) := by decide +kernel
theorem dX9_ahead_62 : decode cX9_ahead 62 = .ok (.invokevirtual 242, 3) := by decide +kernel
theorem dX9_ahead_65 : decode cX9_ahead 65 = .ok (.pop, 1) := by decide +kernel
theorem dX9_ahead_66 : decode cX9_ahead 66 = .ok (.iinc 4 1, 3) := by decide +kernel
theorem dX9_ahead_69 : decode cX9_ahead 69 = .ok (.goto (-26), 3) := by decide +kernel
theorem dX9_ahead_72 : decode cX9_ahead 72 = .ok (.iload_n 3, 1) := by decide +kernel
theorem dX9_ahead_73 : decode cX9_ahead 73 = .ok (.ifCond .ne 13, 3) := by decide +kernel
theorem dX9_ahead_76 : decode cX9_ahead 76 = .ok (.aload_n 0, 1) := by decide +kernel
theorem dX9_ahead_77 : decode cX9_ahead 77 = .ok (.getfield 24, 3) := by decide +kernel
theorem dX9_ahead_80 : decode cX9_ahead 80 = .ok (.iload_n 1, 1) := by decide +kernel
theorem dX9_ahead_81 : decode cX9_ahead 81 = .ok (.iconst 4, 1) := by decide +kernel
theorem dX9_ahead_82 : decode cX9_ahead 82 = .ok (.invokevirtual 147, 3) := by decide +kernel
theorem dX9_ahead_85 : decode cX9_ahead 85 = .ok (.ireturn, 1) := by decide +kernel
theorem dX9_ahead_86 : decode cX9_ahead 86 = .ok (.iload_n 2, 1) := by decide +kernel
theorem dX9_ahead_87 : decode cX9_ahead 87 = .ok (.ifCond .ne 7, 3) := by decide +kernel
theorem dX9_ahead_90 : decode cX9_ahead 90 = .ok (.iconst 0, 1) := by decide +kernel
theorem dX9_ahead_91 : decode cX9_ahead 91 = .ok (.goto 11, 3) := by decide +kernel
theorem dX9_ahead_94 : decode cX9_ahead 94 = .ok (.aload_n 0, 1) := by decide +kernel
theorem dX9_ahead_95 : decode cX9_ahead 95 = .ok (.getfield 50, 3) := by decide +kernel
theorem dX9_ahead_98 : decode cX9_ahead 98 = .ok (.iload_n 1, 1) := by decide +kernel
theorem dX9_ahead_99 : decode cX9_ahead 99 = .ok (.invokevirtual 162, 3) := by decide +kernel
theorem dX9_ahead_102 : decode cX9_ahead 102 = .ok (.ireturn, 1) := by decide +kernel
theorem dX9_last_0 : decode cX9_last 0 = .ok (.aload_n 0, 1) := by decide +kernel
theorem dX9_last_1 : decode cX9_last 1 = .ok (.iload_n 1, 1) := by decide +kernel
theorem dX9_last_2 : decode cX9_last 2 = .ok (.invokevirtual 169, 3) := by decide +kernel
theorem dX9_last_5 : decode cX9_last 5 = .ok (.iconst (-1), 1) := by decide +kernel
theorem dX9_last_6 : decode cX9_last 6 = .ok (.istore_n 3, 1) := by decide +kernel
theorem dX9_last_7 : decode cX9_last 7 = .ok (.iconst 0, 1) := by decide +kernel
theorem dX9_last_8 : decode cX9_last 8 = .ok (.istore 4, 2) := by decide +kernel
theorem dX9_last_10 : decode cX9_last 10 = .ok (.aload_n 0, 1) := by decide +kernel
theorem dX9_last_11 : decode cX9_last 11 = .ok (.getfield 24, 3) := by decide +kernel
theorem dX9_last_14 : decode cX9_last 14 = .ok (.aload_n 0, 1) := by decide +kernel
theorem dX9_last_15 : decode cX9_last 15 = .ok (.getfield 20, 3) := by decide +kernel
theorem dX9_last_18 : decode cX9_last 18 = .ok (.invokevirtual 93, 3) := by decide +kernel
theorem dX9_last_21 : decode cX9_last 21 = .ok (.iconst 1, 1) := by decide +kernel
theorem dX9_last_22 : decode cX9_last 22 = .ok (.istore 5, 2) := by decide +kernel
theorem dX9_last_24 : decode cX9_last 24 = .ok (.iload 5, 2) := by decide +kernel
theorem dX9_last_26 : decode cX9_last 26 = .ok (.bipush 30, 2) := by decide +kernel
theorem dX9_last_28 : decode cX9_last 28 = .ok (.if_icmp .gt 55, 3) := by decide +kernel
theorem dX9_last_31 : decode cX9_last 31 = .ok (.aload_n 0, 1) := by decide +kernel
theorem dX9_last_32 : decode cX9_last 32 = .ok (.getfield 50, 3) := by decide +kernel
theorem dX9_last_35 : decode cX9_last 35 = .ok (.aload_n 0, 1) := by decide +kernel
theorem dX9_last_36 : decode cX9_last 36 = .ok (.getfield 24, 3) := by decide +kernel
theorem dX9_last_39 : decode cX9_last 39 = .ok (.aload_n 0, 1) := by decide +kernel
theorem dX9_last_40 : decode cX9_last 40 = .ok (.getfield 30, 3) := by decide +kernel
theorem dX9_last_43 : decode cX9_last 43 = .ok (.iconst 0, 1) := by decide +kernel
theorem dX9_last_44 : decode cX9_last 44 = .ok (.invokevirtual 242, 3) := by decide +kernel
theorem dX9_last_47 : decode cX9_last 47 = .ok (.pop, 1) := by decide +kernel
theorem dX9_last_48 : decode cX9_last 48 = .ok (.aload_n 0, 1) := by decide +kernel
theorem dX9_last_49 : decode cX9_last 49 = .ok (.getfield 50, 3) := by decide +kernel
theorem dX9_last_52 : decode cX9_last 52 = .ok (.getfield 181, 3) := by decide +kernel
theorem dX9_last_55 : decode cX9_last 55 = .ok (.iload_n 1, 1) := by decide +kernel
theorem dX9_last_56 : decode cX9_last 56 = .ok (.invokestatic 158, 3) := by decide +kernel
theorem dX9_last_59 : decode cX9_last 59 = .ok (.iconst (-1), 1) := by decide +kernel
theorem dX9_last_60 : decode cX9_last 60 = .ok (.if_icmp .ne 9, 3) := by decide +kernel
theorem dX9_last_63 : decode cX9_last 63 = .ok (.iinc 4 1, 3) := by decide +kernel
theorem dX9_last_66 : decode cX9_last 66 = .ok (.goto 11, 3) := by decide +kernel
theorem dX9_last_69 : decode cX9_last 69 = .ok (.iload_n 3, 1) := by decide +kernel
theorem dX9_last_70 : decode cX9_last 70 = .ok (.iconst (-1), 1) := by decide +kernel
theorem dX9_last_71 : decode cX9_last 71 = .ok (.if_icmp .ne 6, 3) := by decide +kernel
theorem dX9_last_74 : decode cX9_last 74 = .ok (.iload 5, 2) := by decide +kernel
theorem dX9_last_76 : decode cX9_last 76 = .ok (.istore_n 3, 1) := by decide +kernel
theorem dX9_last_77 : decode cX9_last 77 = .ok (.iinc 5 1, 3) := by decide +kernel
theorem dX9_last_80 : decode cX9_last 80 = .ok (.goto (-56), 3) := by decide +kernel
theorem dX9_last_83 : decode cX9_last 83 = .ok (.iload_n 2, 1) := by decide +kernel
theorem dX9_last_84 : decode cX9_last 84 = .ok (.ifCond .eq 8, 3) := by decide +kernel
theorem dX9_last_87 : decode cX9_last 87 = .ok (.iload 4, 2) := by decide +kernel
theorem dX9_last_89 : decode cX9_last 89 = .ok (.goto 4, 3) := by decide +kernel
theorem dX9_last_92 : decode cX9_last 92 = .ok (.iload_n 3, 1) := by decide +kernel
theorem dX9_last_93 : decode cX9_last 93 = .ok (.ireturn, 1) := by decide +kernel
theorem dX9_comes_0 : decode cX9_comes 0 = .ok (.aload_n 0, 1) := by decide +kernel
theorem dX9_comes_1 : decode cX9_comes 1 = .ok (.iload_n 1, 1) := by decide +kernel
theorem dX9_comes_2 : decode cX9_comes 2 = .ok (.invokevirtual 139, 3) := by decide +kernel
theorem dX9_comes_5 : decode cX9_comes 5 = .ok (.aload_n 0, 1) := by decide +kernel
theorem dX9_comes_6 : decode cX9_comes 6 = .ok (.getfield 24, 3) := by decide +kernel
theorem dX9_comes_9 : decode cX9_comes 9 = .ok (.aload_n 0, 1) := by decide +kernel
theorem dX9_comes_10 : decode cX9_comes 10 = .ok (.getfield 20, 3) := by decide +kernel
theorem dX9_comes_13 : decode cX9_comes 13 = .ok (.invokevirtual 93, 3) := by decide +kernel
theorem dX9_comes_16 : decode cX9_comes 16 = .ok (.iconst 1, 1) := by decide +kernel
theorem dX9_comes_17 : decode cX9_comes 17 = .ok (.istore_n 2, 1) := by decide +kernel
theorem dX9_comes_18 : decode cX9_comes 18 = .ok (.iload_n 2, 1) := by decide +kernel
theorem dX9_comes_19 : decode cX9_comes 19 = .ok (.bipush 30, 2) := by decide +kernel
theorem dX9_comes_21 : decode cX9_comes 21 = .ok (.if_icmp .gt 39, 3) := by decide +kernel
theorem dX9_comes_24 : decode cX9_comes 24 = .ok (.aload_n 0, 1) := by decide +kernel
theorem dX9_comes_25 : decode cX9_comes 25 = .ok (.getfield 50, 3) := by decide +kernel
theorem dX9_comes_28 : decode cX9_comes 28 = .ok (.aload_n 0, 1) := by decide +kernel
theorem dX9_comes_29 : decode cX9_comes 29 = .ok (.getfield 24, 3) := by decide +kernel
theorem dX9_comes_32 : decode cX9_comes 32 = .ok (.aload_n 0, 1) := by decide +kernel
theorem dX9_comes_33 : decode cX9_comes 33 = .ok (.getfield 30, 3) := by decide +kernel
theorem dX9_comes_36 : decode cX9_comes 36 = .ok (.iconst 0, 1) := by decide +kernel
theorem dX9_comes_37 : decode cX9_comes 37 = .ok (.invokevirtual 242, 3) := by decide +kernel
theorem dX9_comes_40 : decode cX9_comes 40 = .ok (.pop, 1) := by decide +kernel
theorem dX9_comes_41 : decode cX9_comes 41 = .ok (.aload_n 0, 1) := by decide +kernel
theorem dX9_comes_42 : decode cX9_comes 42 = .ok (.getfield 50, 3) := by decide +kernel
theorem dX9_comes_45 : decode cX9_comes 45 = .ok (.iload_n 1, 1) := by decide +kernel
theorem dX9_comes_46 : decode cX9_comes 46 = .ok (.invokevirtual 162, 3) := by decide +kernel
theorem dX9_comes_49 : decode cX9_comes 49 = .ok (.ifCond .eq 5, 3) := by decide +kernel
theorem dX9_comes_52 : decode cX9_comes 52 = .ok (.iload_n 2, 1) := by decide +kernel
theorem dX9_comes_53 : decode cX9_comes 53 = .ok (.ireturn, 1) := by decide +kernel
theorem dX9_comes_54 : decode cX9_comes 54 = .ok (.iinc 2 1, 3) := by decide +kernel
theorem dX9_comes_57 : decode cX9_comes 57 = .ok (.goto (-39), 3) := by decide +kernel
theorem dX9_comes_60 : decode cX9_comes 60 = .ok (.iconst (-1), 1) := by decide +kernel
theorem dX9_comes_61 : decode cX9_comes 61 = .ok (.ireturn, 1) := by decide +kernel
theorem dX9_steps_0 : decode cX9_steps 0 = .ok (.iload_n 1, 1) := by decide +kernel
theorem dX9_steps_1 : decode cX9_steps 1 = .ok (.iconst (-1), 1) := by decide +kernel
theorem dX9_steps_2 : decode cX9_steps 2 = .ok (.if_icmp .ne 15, 3) := by decide +kernel
theorem dX9_steps_5 : decode cX9_steps 5 = .ok (.aload_n 0, 1) := by decide +kernel
theorem dX9_steps_6 : decode cX9_steps 6 = .ok (.getfield 20, 3) := by decide +kernel
theorem dX9_steps_9 : decode cX9_steps 9 = .ok (.bipush 19, 2) := by decide +kernel
theorem dX9_steps_11 : decode cX9_steps 11 = .ok (.invokevirtual 184, 3) := by decide +kernel
theorem dX9_steps_14 : decode cX9_steps 14 = .ok (.iconst 1, 1) := by decide +kernel
theorem dX9_steps_15 : decode cX9_steps 15 = .ok (.iadd, 1) := by decide +kernel
theorem dX9_steps_16 : decode cX9_steps 16 = .ok (.ireturn, 1) := by decide +kernel
theorem dX9_steps_17 : decode cX9_steps 17 = .ok (.iload_n 1, 1) := by decide +kernel
theorem dX9_steps_18 : decode cX9_steps 18 = .ok (.invokestatic 206, 3) := by decide +kernel
theorem dX9_steps_21 : decode cX9_steps 21 = .ok (.aload_n 0, 1) := by decide +kernel
theorem dX9_steps_22 : decode cX9_steps 22 = .ok (.getfield 20, 3) := by decide +kernel
theorem dX9_steps_25 : decode cX9_steps 25 = .ok (.iload_n 1, 1) := by decide +kernel
theorem dX9_steps_26 : decode cX9_steps 26 = .ok (.invokevirtual 184, 3) := by decide +kernel
theorem dX9_steps_29 : decode cX9_steps 29 = .ok (.ireturn, 1) := by decide +kernel
theorem dX9_trial_0 : decode cX9_trial 0 = .ok (.iload_n 1, 1) := by decide +kernel
theorem dX9_trial_1 : decode cX9_trial 1 = .ok (.invokestatic 326, 3) := by decide +kernel
theorem dX9_trial_4 : decode cX9_trial 4 = .ok (.aload_n 0, 1) := by decide +kernel
theorem dX9_trial_5 : decode cX9_trial 5 = .ok (.getfield 24, 3) := by decide +kernel
theorem dX9_trial_8 : decode cX9_trial 8 = .ok (.aload_n 0, 1) := by decide +kernel
theorem dX9_trial_9 : decode cX9_trial 9 = .ok (.getfield 20, 3) := by decide +kernel
theorem dX9_trial_12 : decode cX9_trial 12 = .ok (.invokevirtual 93, 3) := by decide +kernel
theorem dX9_trial_15 : decode cX9_trial 15 = .ok (.aload_n 0, 1) := by decide +kernel
theorem dX9_trial_16 : decode cX9_trial 16 = .ok (.aload_n 0, 1) := by decide +kernel
theorem dX9_trial_17 : decode cX9_trial 17 = .ok (.getfield 24, 3) := by decide +kernel
theorem dX9_trial_20 : decode cX9_trial 20 = .ok (.iload_n 1, 1) := by decide +kernel
theorem dX9_trial_21 : decode cX9_trial 21 = .ok (.invokevirtual 239, 3) := by decide +kernel
theorem dX9_trial_24 : decode cX9_trial 24 = .ok (.ireturn, 1) := by decide +kernel
theorem dX9_span_0 : decode cX9_span 0 = .ok (.iload_n 1, 1) := by decide +kernel
theorem dX9_span_1 : decode cX9_span 1 = .ok (.invokestatic 326, 3) := by decide +kernel
theorem dX9_span_4 : decode cX9_span 4 = .ok (.sipush 300, 3) := by decide +kernel
theorem dX9_span_7 : decode cX9_span 7 = .ok (.istore_n 3, 1) := by decide +kernel
theorem dX9_span_8 : decode cX9_span 8 = .ok (.iconst 0, 1) := by decide +kernel
theorem dX9_span_9 : decode cX9_span 9 = .ok (.istore 4, 2) := by decide +kernel
theorem dX9_span_11 : decode cX9_span 11 = .ok (.iconst 1, 1) := by decide +kernel
theorem dX9_span_12 : decode cX9_span 12 = .ok (.istore 5, 2) := by decide +kernel
theorem dX9_span_14 : decode cX9_span 14 = .ok (.iload 5, 2) := by decide +kernel
theorem dX9_span_16 : decode cX9_span 16 = .ok (.bipush 6, 2) := by decide +kernel
theorem dX9_span_18 : decode cX9_span 18 = .ok (.if_icmp .gt 56, 3) := by decide +kernel
theorem dX9_span_21 : decode cX9_span 21 = .ok (.aload_n 0, 1) := by decide +kernel
theorem dX9_span_22 : decode cX9_span 22 = .ok (.getfield 24, 3) := by decide +kernel
theorem dX9_span_25 : decode cX9_span 25 = .ok (.aload_n 0, 1) := by decide +kernel
theorem dX9_span_26 : decode cX9_span 26 = .ok (.getfield 20, 3) := by decide +kernel
theorem dX9_span_29 : decode cX9_span 29 = .ok (.invokevirtual 93, 3) := by decide +kernel
theorem dX9_span_32 : decode cX9_span 32 = .ok (.aload_n 0, 1) := by decide +kernel
theorem dX9_span_33 : decode cX9_span 33 = .ok (.getfield 24, 3) := by decide +kernel
theorem dX9_span_36 : decode cX9_span 36 = .ok (.iload 5, 2) := by decide +kernel
theorem dX9_span_38 : decode cX9_span 38 = .ok (.putfield 331, 3) := by decide +kernel
theorem dX9_span_41 : decode cX9_span 41 = .ok (.aload_n 0, 1) := by decide +kernel
theorem dX9_span_42 : decode cX9_span 42 = .ok (.aload_n 0, 1) := by decide +kernel
theorem dX9_span_43 : decode cX9_span 43 = .ok (.getfield 24, 3) := by decide +kernel
theorem dX9_span_46 : decode cX9_span 46 = .ok (.iload_n 1, 1) := by decide +kernel
theorem dX9_span_47 : decode cX9_span 47 = .ok (.invokevirtual 239, 3) := by decide +kernel
theorem dX9_span_50 : decode cX9_span 50 = .ok (.istore 6, 2) := by decide +kernel
theorem dX9_span_52 : decode cX9_span 52 = .ok (.iload_n 3, 1) := by decide +kernel
theorem dX9_span_53 : decode cX9_span 53 = .ok (.iload 6, 2) := by decide +kernel
theorem dX9_span_55 : decode cX9_span 55 = .ok (.invokestatic 334, 3) := by decide +kernel
theorem dX9_span_58 : decode cX9_span 58 = .ok (.istore_n 3, 1) := by decide +kernel
theorem dX9_span_59 : decode cX9_span 59 = .ok (.iload 4, 2) := by decide +kernel
theorem dX9_span_61 : decode cX9_span 61 = .ok (.iload 6, 2) := by decide +kernel
theorem dX9_span_63 : decode cX9_span 63 = .ok (.invokestatic 313, 3) := by decide +kernel
theorem dX9_span_66 : decode cX9_span 66 = .ok (.istore 4, 2) := by decide +kernel
theorem dX9_span_68 : decode cX9_span 68 = .ok (.iinc 5 1, 3) := by decide +kernel
theorem dX9_span_71 : decode cX9_span 71 = .ok (.goto (-57), 3) := by decide +kernel
theorem dX9_span_74 : decode cX9_span 74 = .ok (.iload_n 2, 1) := by decide +kernel
theorem dX9_span_75 : decode cX9_span 75 = .ok (.ifCond .eq 8, 3) := by decide +kernel
theorem dX9_span_78 : decode cX9_span 78 = .ok (.iload 4, 2) := by decide +kernel
theorem dX9_span_80 : decode cX9_span 80 = .ok (.goto 4, 3) := by decide +kernel
theorem dX9_span_83 : decode cX9_span 83 = .ok (.iload_n 3, 1) := by decide +kernel
theorem dX9_span_84 : decode cX9_span 84 = .ok (.ireturn, 1) := by decide +kernel
theorem dX9_led_0 : decode cX9_led 0 = .ok (.aload_n 0, 1) := by decide +kernel
theorem dX9_led_1 : decode cX9_led 1 = .ok (.iload_n 1, 1) := by decide +kernel
theorem dX9_led_2 : decode cX9_led 2 = .ok (.invokevirtual 139, 3) := by decide +kernel
theorem dX9_led_5 : decode cX9_led 5 = .ok (.iconst 0, 1) := by decide +kernel
theorem dX9_led_6 : decode cX9_led 6 = .ok (.istore_n 3, 1) := by decide +kernel
theorem dX9_led_7 : decode cX9_led 7 = .ok (.iconst (-1), 1) := by decide +kernel
theorem dX9_led_8 : decode cX9_led 8 = .ok (.istore 4, 2) := by decide +kernel
theorem dX9_led_10 : decode cX9_led 10 = .ok (.iconst 0, 1) := by decide +kernel
theorem dX9_led_11 : decode cX9_led 11 = .ok (.istore 5, 2) := by decide +kernel
theorem dX9_led_13 : decode cX9_led 13 = .ok (.iconst 0, 1) := by decide +kernel
theorem dX9_led_14 : decode cX9_led 14 = .ok (.istore 6, 2) := by decide +kernel
theorem dX9_led_16 : decode cX9_led 16 = .ok (.iload 6, 2) := by decide +kernel
theorem dX9_led_18 : decode cX9_led 18 = .ok (.bipush 10, 2) := by decide +kernel
theorem dX9_led_20 : decode cX9_led 20 = .ok (.if_icmp .ge 41, 3) := by decide +kernel
theorem dX9_led_23 : decode cX9_led 23 = .ok (.aload_n 0, 1) := by decide +kernel
theorem dX9_led_24 : decode cX9_led 24 = .ok (.getfield 20, 3) := by decide +kernel
theorem dX9_led_27 : decode cX9_led 27 = .ok (.iload 6, 2) := by decide +kernel
theorem dX9_led_29 : decode cX9_led 29 = .ok (.iload_n 1, 1) := by decide +kernel
theorem dX9_led_30 : decode cX9_led 30 = .ok (.invokevirtual 337, 3) := by decide +kernel
theorem dX9_led_33 : decode cX9_led 33 = .ok (.istore 7, 2) := by decide +kernel
theorem dX9_led_35 : decode cX9_led 35 = .ok (.iload_n 3, 1) := by decide +kernel
theorem dX9_led_36 : decode cX9_led 36 = .ok (.iload 7, 2) := by decide +kernel
theorem dX9_led_38 : decode cX9_led 38 = .ok (.iadd, 1) := by decide +kernel
theorem dX9_led_39 : decode cX9_led 39 = .ok (.istore_n 3, 1) := by decide +kernel
theorem dX9_led_40 : decode cX9_led 40 = .ok (.iload 7, 2) := by decide +kernel
theorem dX9_led_42 : decode cX9_led 42 = .ok (.iload 5, 2) := by decide +kernel
theorem dX9_led_44 : decode cX9_led 44 = .ok (.if_icmp .le 11, 3) := by decide +kernel
theorem dX9_led_47 : decode cX9_led 47 = .ok (.iload 7, 2) := by decide +kernel
theorem dX9_led_49 : decode cX9_led 49 = .ok (.istore 5, 2) := by decide +kernel
theorem dX9_led_51 : decode cX9_led 51 = .ok (.iload 6, 2) := by decide +kernel
theorem dX9_led_53 : decode cX9_led 53 = .ok (.istore 4, 2) := by decide +kernel
theorem dX9_led_55 : decode cX9_led 55 = .ok (.iinc 6 1, 3) := by decide +kernel
theorem dX9_led_58 : decode cX9_led 58 = .ok (.goto (-42), 3) := by decide +kernel
theorem dX9_led_61 : decode cX9_led 61 = .ok (.iload_n 2, 1) := by decide +kernel
theorem dX9_led_62 : decode cX9_led 62 = .ok (.ifCond .eq 8, 3) := by decide +kernel
theorem dX9_led_65 : decode cX9_led 65 = .ok (.iload 4, 2) := by decide +kernel
theorem dX9_led_67 : decode cX9_led 67 = .ok (.goto 4, 3) := by decide +kernel
theorem dX9_led_70 : decode cX9_led 70 = .ok (.iload_n 3, 1) := by decide +kernel
theorem dX9_led_71 : decode cX9_led 71 = .ok (.ireturn, 1) := by decide +kernel
theorem dX9_log_0 : decode cX9_log 0 = .ok (.iload_n 2, 1) := by decide +kernel
theorem dX9_log_1 : decode cX9_log 1 = .ok (.ifCond .lt 8, 3) := by decide +kernel
theorem dX9_log_4 : decode cX9_log 4 = .ok (.iload_n 2, 1) := by decide +kernel
theorem dX9_log_5 : decode cX9_log 5 = .ok (.iconst 5, 1) := by decide +kernel
theorem dX9_log_6 : decode cX9_log 6 = .ok (.if_icmp .lt 14, 3) := by decide +kernel
theorem dX9_log_9 : decode cX9_log 9 = .ok (.new 142, 3) := by decide +kernel
theorem dX9_log_12 : decode cX9_log 12 = .ok (.dup, 1) := by decide +kernel
theorem dX9_log_13 : decode cX9_log 13 = .ok (.ldc_w 340, 3) := by decide +kernel
theorem dX9_log_16 : decode cX9_log 16 = .ok (.invokespecial 146, 3) := by decide +kernel
theorem dX9_log_19 : decode cX9_log 19 = .ok (.athrow, 1) := by decide +kernel
theorem dX9_log_20 : decode cX9_log 20 = .ok (.iload_n 1, 1) := by decide +kernel
theorem dX9_log_21 : decode cX9_log 21 = .ok (.ifCond .lt 14, 3) := by decide +kernel
theorem dX9_log_24 : decode cX9_log 24 = .ok (.iload_n 1, 1) := by decide +kernel
theorem dX9_log_25 : decode cX9_log 25 = .ok (.aload_n 0, 1) := by decide +kernel
theorem dX9_log_26 : decode cX9_log 26 = .ok (.getfield 20, 3) := by decide +kernel
theorem dX9_log_29 : decode cX9_log 29 = .ok (.invokevirtual 342, 3) := by decide +kernel
theorem dX9_log_32 : decode cX9_log 32 = .ok (.if_icmp .lt 7, 3) := by decide +kernel
theorem dX9_log_35 : decode cX9_log 35 = .ok (.iconst (-1), 1) := by decide +kernel
theorem dX9_log_36 : decode cX9_log 36 = .ok (.goto 12, 3) := by decide +kernel
theorem dX9_log_39 : decode cX9_log 39 = .ok (.aload_n 0, 1) := by decide +kernel
theorem dX9_log_40 : decode cX9_log 40 = .ok (.getfield 20, 3) := by decide +kernel
theorem dX9_log_43 : decode cX9_log 43 = .ok (.iload_n 1, 1) := by decide +kernel
theorem dX9_log_44 : decode cX9_log 44 = .ok (.iload_n 2, 1) := by decide +kernel
theorem dX9_log_45 : decode cX9_log 45 = .ok (.invokevirtual 345, 3) := by decide +kernel
theorem dX9_log_48 : decode cX9_log 48 = .ok (.ireturn, 1) := by decide +kernel
theorem dX9_seed_0 : decode cX9_seed 0 = .ok (.aload_n 0, 1) := by decide +kernel
theorem dX9_seed_1 : decode cX9_seed 1 = .ok (.getfield 20, 3) := by decide +kernel
theorem dX9_seed_4 : decode cX9_seed 4 = .ok (.getfield 331, 3) := by decide +kernel
theorem dX9_seed_7 : decode cX9_seed 7 = .ok (.istore_n 2, 1) := by decide +kernel
theorem dX9_seed_8 : decode cX9_seed 8 = .ok (.aload_n 0, 1) := by decide +kernel
theorem dX9_seed_9 : decode cX9_seed 9 = .ok (.getfield 20, 3) := by decide +kernel
theorem dX9_seed_12 : decode cX9_seed 12 = .ok (.iload_n 1, 1) := by decide +kernel
theorem dX9_seed_13 : decode cX9_seed 13 = .ok (.putfield 331, 3) := by decide +kernel
theorem dX9_seed_16 : decode cX9_seed 16 = .ok (.iload_n 2, 1) := by decide +kernel
theorem dX9_seed_17 : decode cX9_seed 17 = .ok (.ireturn, 1) := by decide +kernel
theorem dX9_undo_0 : decode cX9_undo 0 = .ok (.aload_n 0, 1) := by decide +kernel
theorem dX9_undo_1 : decode cX9_undo 1 = .ok (.getfield 129, 3) := by decide +kernel
theorem dX9_undo_4 : decode cX9_undo 4 = .ok (.iconst 1, 1) := by decide +kernel
theorem dX9_undo_5 : decode cX9_undo 5 = .ok (.if_icmp .lt 15, 3) := by decide +kernel
theorem dX9_undo_8 : decode cX9_undo 8 = .ok (.aload_n 0, 1) := by decide +kernel
theorem dX9_undo_9 : decode cX9_undo 9 = .ok (.getfield 129, 3) := by decide +kernel
theorem dX9_undo_12 : decode cX9_undo 12 = .ok (.aload_n 0, 1) := by decide +kernel
theorem dX9_undo_13 : decode cX9_undo 13 = .ok (.getfield 43, 3) := by decide +kernel
theorem dX9_undo_16 : decode cX9_undo 16 = .ok (.arraylength, 1) := by decide +kernel
theorem dX9_undo_17 : decode cX9_undo 17 = .ok (.if_icmp .le 5, 3) := by decide +kernel
theorem dX9_undo_20 : decode cX9_undo 20 = .ok (.iconst 0, 1) := by decide +kernel
theorem dX9_undo_21 : decode cX9_undo 21 = .ok (.ireturn, 1) := by decide +kernel
theorem dX9_undo_22 : decode cX9_undo 22 = .ok (.aload_n 0, 1) := by decide +kernel
theorem dX9_undo_23 : decode cX9_undo 23 = .ok (.dup, 1) := by decide +kernel
theorem dX9_undo_24 : decode cX9_undo 24 = .ok (.getfield 129, 3) := by decide +kernel
theorem dX9_undo_27 : decode cX9_undo 27 = .ok (.iconst 1, 1) := by decide +kernel
theorem dX9_undo_28 : decode cX9_undo 28 = .ok (.isub, 1) := by decide +kernel
theorem dX9_undo_29 : decode cX9_undo 29 = .ok (.putfield 129, 3) := by decide +kernel
theorem dX9_undo_32 : decode cX9_undo 32 = .ok (.aload_n 0, 1) := by decide +kernel
theorem dX9_undo_33 : decode cX9_undo 33 = .ok (.getfield 20, 3) := by decide +kernel
theorem dX9_undo_36 : decode cX9_undo 36 = .ok (.aload_n 0, 1) := by decide +kernel
theorem dX9_undo_37 : decode cX9_undo 37 = .ok (.getfield 43, 3) := by decide +kernel
theorem dX9_undo_40 : decode cX9_undo 40 = .ok (.aload_n 0, 1) := by decide +kernel
theorem dX9_undo_41 : decode cX9_undo 41 = .ok (.getfield 129, 3) := by decide +kernel
theorem dX9_undo_44 : decode cX9_undo 44 = .ok (.aaload, 1) := by decide +kernel
theorem dX9_undo_45 : decode cX9_undo 45 = .ok (.invokevirtual 93, 3) := by decide +kernel
theorem dX9_undo_48 : decode cX9_undo 48 = .ok (.iconst 1, 1) := by decide +kernel
theorem dX9_undo_49 : decode cX9_undo 49 = .ok (.ireturn, 1) := by decide +kernel
theorem dX9_image_0 : decode cX9_image 0 = .ok (.aload_n 0, 1) := by decide +kernel
theorem dX9_image_1 : decode cX9_image 1 = .ok (.getfield 37, 3) := by decide +kernel
theorem dX9_image_4 : decode cX9_image 4 = .ok (.aload_n 0, 1) := by decide +kernel
theorem dX9_image_5 : decode cX9_image 5 = .ok (.getfield 20, 3) := by decide +kernel
theorem dX9_image_8 : decode cX9_image 8 = .ok (.invokevirtual 93, 3) := by decide +kernel
theorem dX9_image_11 : decode cX9_image 11 = .ok (.aload_n 0, 1) := by decide +kernel
theorem dX9_image_12 : decode cX9_image 12 = .ok (.getfield 40, 3) := by decide +kernel
theorem dX9_image_15 : decode cX9_image 15 = .ok (.aload_n 0, 1) := by decide +kernel
theorem dX9_image_16 : decode cX9_image 16 = .ok (.getfield 30, 3) := by decide +kernel
theorem dX9_image_19 : decode cX9_image 19 = .ok (.invokevirtual 348, 3) := by decide +kernel
theorem dX9_image_22 : decode cX9_image 22 = .ok (.aload_n 0, 1) := by decide +kernel
theorem dX9_image_23 : decode cX9_image 23 = .ok (.iconst 1, 1) := by decide +kernel
theorem dX9_image_24 : decode cX9_image 24 = .ok (.putfield 351, 3) := by decide +kernel
theorem dX9_image_27 : decode cX9_image 27 = .ok (.return_, 1) := by decide +kernel
theorem dX9_back_0 : decode cX9_back 0 = .ok (.aload_n 0, 1) := by decide +kernel
theorem dX9_back_1 : decode cX9_back 1 = .ok (.getfield 351, 3) := by decide +kernel
theorem dX9_back_4 : decode cX9_back 4 = .ok (.ifCond .ne 5, 3) := by decide +kernel
theorem dX9_back_7 : decode cX9_back 7 = .ok (.iconst 0, 1) := by decide +kernel
theorem dX9_back_8 : decode cX9_back 8 = .ok (.ireturn, 1) := by decide +kernel
theorem dX9_back_9 : decode cX9_back 9 = .ok (.aload_n 0, 1) := by decide +kernel
theorem dX9_back_10 : decode cX9_back 10 = .ok (.getfield 20, 3) := by decide +kernel
theorem dX9_back_13 : decode cX9_back 13 = .ok (.aload_n 0, 1) := by decide +kernel
theorem dX9_back_14 : decode cX9_back 14 = .ok (.getfield 37, 3) := by decide +kernel
theorem dX9_back_17 : decode cX9_back 17 = .ok (.invokevirtual 93, 3) := by decide +kernel
theorem dX9_back_20 : decode cX9_back 20 = .ok (.aload_n 0, 1) := by decide +kernel
theorem dX9_back_21 : decode cX9_back 21 = .ok (.getfield 30, 3) := by decide +kernel
theorem dX9_back_24 : decode cX9_back 24 = .ok (.aload_n 0, 1) := by decide +kernel
theorem dX9_back_25 : decode cX9_back 25 = .ok (.getfield 40, 3) := by decide +kernel
theorem dX9_back_28 : decode cX9_back 28 = .ok (.invokevirtual 348, 3) := by decide +kernel
theorem dX9_back_31 : decode cX9_back 31 = .ok (.aload_n 0, 1) := by decide +kernel
theorem dX9_back_32 : decode cX9_back 32 = .ok (.iconst 0, 1) := by decide +kernel
theorem dX9_back_33 : decode cX9_back 33 = .ok (.putfield 129, 3) := by decide +kernel
theorem dX9_back_36 : decode cX9_back 36 = .ok (.iconst 1, 1) := by decide +kernel
theorem dX9_back_37 : decode cX9_back 37 = .ok (.ireturn, 1) := by decide +kernel
theorem dX9_count_0 : decode cX9_count 0 = .ok (.iload_n 1, 1) := by decide +kernel
theorem dX9_count_1 : decode cX9_count 1 = .ok (.tableswitch 158 0 11 #[63, 71, 79, 87, 95, 103, 111, 119, 128, 137, 145, 153], 63) := by decide +kernel
theorem dX9_count_64 : decode cX9_count 64 = .ok (.aload_n 0, 1) := by decide +kernel
theorem dX9_count_65 : decode cX9_count 65 = .ok (.getfield 20, 3) := by decide +kernel
theorem dX9_count_68 : decode cX9_count 68 = .ok (.getfield 191, 3) := by decide +kernel
theorem dX9_count_71 : decode cX9_count 71 = .ok (.ireturn, 1) := by decide +kernel
theorem dX9_count_72 : decode cX9_count 72 = .ok (.aload_n 0, 1) := by decide +kernel
theorem dX9_count_73 : decode cX9_count 73 = .ok (.getfield 20, 3) := by decide +kernel
theorem dX9_count_76 : decode cX9_count 76 = .ok (.getfield 289, 3) := by decide +kernel
theorem dX9_count_79 : decode cX9_count 79 = .ok (.ireturn, 1) := by decide +kernel
theorem dX9_count_80 : decode cX9_count 80 = .ok (.aload_n 0, 1) := by decide +kernel
theorem dX9_count_81 : decode cX9_count 81 = .ok (.getfield 20, 3) := by decide +kernel
theorem dX9_count_84 : decode cX9_count 84 = .ok (.getfield 121, 3) := by decide +kernel
theorem dX9_count_87 : decode cX9_count 87 = .ok (.ireturn, 1) := by decide +kernel
theorem dX9_count_88 : decode cX9_count 88 = .ok (.aload_n 0, 1) := by decide +kernel
theorem dX9_count_89 : decode cX9_count 89 = .ok (.getfield 30, 3) := by decide +kernel
theorem dX9_count_92 : decode cX9_count 92 = .ok (.getfield 136, 3) := by decide +kernel
theorem dX9_count_95 : decode cX9_count 95 = .ok (.ireturn, 1) := by decide +kernel
theorem dX9_count_96 : decode cX9_count 96 = .ok (.aload_n 0, 1) := by decide +kernel
theorem dX9_count_97 : decode cX9_count 97 = .ok (.getfield 20, 3) := by decide +kernel
theorem dX9_count_100 : decode cX9_count 100 = .ok (.getfield 355, 3) := by decide +kernel
theorem dX9_count_103 : decode cX9_count 103 = .ok (.ireturn, 1) := by decide +kernel
theorem dX9_count_104 : decode cX9_count 104 = .ok (.aload_n 0, 1) := by decide +kernel
theorem dX9_count_105 : decode cX9_count 105 = .ok (.getfield 20, 3) := by decide +kernel
theorem dX9_count_108 : decode cX9_count 108 = .ok (.getfield 358, 3) := by decide +kernel
theorem dX9_count_111 : decode cX9_count 111 = .ok (.ireturn, 1) := by decide +kernel
theorem dX9_count_112 : decode cX9_count 112 = .ok (.aload_n 0, 1) := by decide +kernel
theorem dX9_count_113 : decode cX9_count 113 = .ok (.getfield 20, 3) := by decide +kernel
theorem dX9_count_116 : decode cX9_count 116 = .ok (.invokevirtual 361, 3) := by decide +kernel
theorem dX9_count_119 : decode cX9_count 119 = .ok (.ireturn, 1) := by decide +kernel
theorem dX9_count_120 : decode cX9_count 120 = .ok (.aload_n 0, 1) := by decide +kernel
theorem dX9_count_121 : decode cX9_count 121 = .ok (.getfield 20, 3) := by decide +kernel
theorem dX9_count_124 : decode cX9_count 124 = .ok (.iconst 4, 1) := by decide +kernel
theorem dX9_count_125 : decode cX9_count 125 = .ok (.invokevirtual 364, 3) := by decide +kernel
theorem dX9_count_128 : decode cX9_count 128 = .ok (.ireturn, 1) := by decide +kernel
theorem dX9_count_129 : decode cX9_count 129 = .ok (.aload_n 0, 1) := by decide +kernel
theorem dX9_count_130 : decode cX9_count 130 = .ok (.getfield 20, 3) := by decide +kernel
theorem dX9_count_133 : decode cX9_count 133 = .ok (.iconst 2, 1) := by decide +kernel
theorem dX9_count_134 : decode cX9_count 134 = .ok (.invokevirtual 364, 3) := by decide +kernel
theorem dX9_count_137 : decode cX9_count 137 = .ok (.ireturn, 1) := by decide +kernel
theorem dX9_count_138 : decode cX9_count 138 = .ok (.aload_n 0, 1) := by decide +kernel
theorem dX9_count_139 : decode cX9_count 139 = .ok (.getfield 20, 3) := by decide +kernel
theorem dX9_count_142 : decode cX9_count 142 = .ok (.getfield 367, 3) := by decide +kernel
theorem dX9_count_145 : decode cX9_count 145 = .ok (.ireturn, 1) := by decide +kernel
theorem dX9_count_146 : decode cX9_count 146 = .ok (.aload_n 0, 1) := by decide +kernel
theorem dX9_count_147 : decode cX9_count 147 = .ok (.getfield 20, 3) := by decide +kernel
theorem dX9_count_150 : decode cX9_count 150 = .ok (.invokevirtual 342, 3) := by decide +kernel
theorem dX9_count_153 : decode cX9_count 153 = .ok (.ireturn, 1) := by decide +kernel
theorem dX9_count_154 : decode cX9_count 154 = .ok (.aload_n 0, 1) := by decide +kernel
theorem dX9_count_155 : decode cX9_count 155 = .ok (.getfield 129, 3) := by decide +kernel
theorem dX9_count_158 : decode cX9_count 158 = .ok (.ireturn, 1) := by decide +kernel
theorem dX9_count_159 : decode cX9_count 159 = .ok (.iconst (-1), 1) := by decide +kernel
theorem dX9_count_160 : decode cX9_count 160 = .ok (.ireturn, 1) := by decide +kernel
theorem dX9_needThing_0 : decode cX9_needThing 0 = .ok (.iload_n 1, 1) := by decide +kernel
theorem dX9_needThing_1 : decode cX9_needThing 1 = .ok (.ifCond .lt 14, 3) := by decide +kernel
theorem dX9_needThing_4 : decode cX9_needThing 4 = .ok (.iload_n 1, 1) := by decide +kernel
theorem dX9_needThing_5 : decode cX9_needThing 5 = .ok (.aload_n 0, 1) := by decide +kernel
theorem dX9_needThing_6 : decode cX9_needThing 6 = .ok (.getfield 20, 3) := by decide +kernel
theorem dX9_needThing_9 : decode cX9_needThing 9 = .ok (.getfield 191, 3) := by decide +kernel
theorem dX9_needThing_12 : decode cX9_needThing 12 = .ok (.if_icmp .lt 14, 3) := by decide +kernel
theorem dX9_needThing_15 : decode cX9_needThing 15 = .ok (.new 226, 3) := by decide +kernel
theorem dX9_needThing_18 : decode cX9_needThing 18 = .ok (.dup, 1) := by decide +kernel
theorem dX9_needThing_19 : decode cX9_needThing 19 = .ok (.ldc_w 370, 3) := by decide +kernel
theorem dX9_needThing_22 : decode cX9_needThing 22 = .ok (.invokespecial 230, 3) := by decide +kernel
theorem dX9_needThing_25 : decode cX9_needThing 25 = .ok (.athrow, 1) := by decide +kernel
theorem dX9_needThing_26 : decode cX9_needThing 26 = .ok (.return_, 1) := by decide +kernel
theorem dX9_needVisitor_0 : decode cX9_needVisitor 0 = .ok (.iload_n 1, 1) := by decide +kernel
theorem dX9_needVisitor_1 : decode cX9_needVisitor 1 = .ok (.ifCond .lt 14, 3) := by decide +kernel
theorem dX9_needVisitor_4 : decode cX9_needVisitor 4 = .ok (.iload_n 1, 1) := by decide +kernel
theorem dX9_needVisitor_5 : decode cX9_needVisitor 5 = .ok (.aload_n 0, 1) := by decide +kernel
theorem dX9_needVisitor_6 : decode cX9_needVisitor 6 = .ok (.getfield 20, 3) := by decide +kernel
theorem dX9_needVisitor_9 : decode cX9_needVisitor 9 = .ok (.getfield 289, 3) := by decide +kernel
theorem dX9_needVisitor_12 : decode cX9_needVisitor 12 = .ok (.if_icmp .lt 14, 3) := by decide +kernel
theorem dX9_needVisitor_15 : decode cX9_needVisitor 15 = .ok (.new 226, 3) := by decide +kernel
theorem dX9_needVisitor_18 : decode cX9_needVisitor 18 = .ok (.dup, 1) := by decide +kernel
theorem dX9_needVisitor_19 : decode cX9_needVisitor 19 = .ok (.ldc_w 372, 3) := by decide +kernel
theorem dX9_needVisitor_22 : decode cX9_needVisitor 22 = .ok (.invokespecial 230, 3) := by decide +kernel
theorem dX9_needVisitor_25 : decode cX9_needVisitor 25 = .ok (.athrow, 1) := by decide +kernel
theorem dX9_needVisitor_26 : decode cX9_needVisitor 26 = .ok (.return_, 1) := by decide +kernel
theorem dX9_needCell_0 : decode cX9_needCell 0 = .ok (.iload_n 0, 1) := by decide +kernel
theorem dX9_needCell_1 : decode cX9_needCell 1 = .ok (.ifCond .lt 9, 3) := by decide +kernel
theorem dX9_needCell_4 : decode cX9_needCell 4 = .ok (.iload_n 0, 1) := by decide +kernel
theorem dX9_needCell_5 : decode cX9_needCell 5 = .ok (.bipush 20, 2) := by decide +kernel
theorem dX9_needCell_7 : decode cX9_needCell 7 = .ok (.if_icmp .lt 14, 3) := by decide +kernel
theorem dX9_needCell_10 : decode cX9_needCell 10 = .ok (.new 226, 3) := by decide +kernel
theorem dX9_needCell_13 : decode cX9_needCell 13 = .ok (.dup, 1) := by decide +kernel
theorem dX9_needCell_14 : decode cX9_needCell 14 = .ok (.ldc_w 374, 3) := by decide +kernel
theorem dX9_needCell_17 : decode cX9_needCell 17 = .ok (.invokespecial 230, 3) := by decide +kernel
theorem dX9_needCell_20 : decode cX9_needCell 20 = .ok (.athrow, 1) := by decide +kernel
theorem dX9_needCell_21 : decode cX9_needCell 21 = .ok (.return_, 1) := by decide +kernel
theorem dX9_needDaysAhead_0 : decode cX9_needDaysAhead 0 = .ok (.iload_n 0, 1) := by decide +kernel
theorem dX9_needDaysAhead_1 : decode cX9_needDaysAhead 1 = .ok (.ifCond .lt 9, 3) := by decide +kernel
theorem dX9_needDaysAhead_4 : decode cX9_needDaysAhead 4 = .ok (.iload_n 0, 1) := by decide +kernel
theorem dX9_needDaysAhead_5 : decode cX9_needDaysAhead 5 = .ok (.bipush 30, 2) := by decide +kernel
theorem dX9_needDaysAhead_7 : decode cX9_needDaysAhead 7 = .ok (.if_icmp .le 14, 3) := by decide +kernel
theorem dX9_needDaysAhead_10 : decode cX9_needDaysAhead 10 = .ok (.new 114, 3) := by decide +kernel
theorem dX9_needDaysAhead_13 : decode cX9_needDaysAhead 13 = .ok (.dup, 1) := by decide +kernel
theorem dX9_needDaysAhead_14 : decode cX9_needDaysAhead 14 = .ok (.ldc_w 376, 3) := by decide +kernel
theorem dX9_needDaysAhead_17 : decode cX9_needDaysAhead 17 = .ok (.invokespecial 118, 3) := by decide +kernel
theorem dX9_needDaysAhead_20 : decode cX9_needDaysAhead 20 = .ok (.athrow, 1) := by decide +kernel
theorem dX9_needDaysAhead_21 : decode cX9_needDaysAhead 21 = .ok (.return_, 1) := by decide +kernel
theorem dX9_at_0 : decode cX9_at 0 = .ok (.iload_n 1, 1) := by decide +kernel
theorem dX9_at_1 : decode cX9_at 1 = .ok (.ifCond .lt 15, 3) := by decide +kernel
theorem dX9_at_4 : decode cX9_at 4 = .ok (.iload_n 1, 1) := by decide +kernel
theorem dX9_at_5 : decode cX9_at 5 = .ok (.aload_n 0, 1) := by decide +kernel
theorem dX9_at_6 : decode cX9_at 6 = .ok (.arraylength, 1) := by decide +kernel
theorem dX9_at_7 : decode cX9_at 7 = .ok (.if_icmp .ge 9, 3) := by decide +kernel
theorem dX9_at_10 : decode cX9_at 10 = .ok (.aload_n 0, 1) := by decide +kernel
theorem dX9_at_11 : decode cX9_at 11 = .ok (.iload_n 1, 1) := by decide +kernel
theorem dX9_at_12 : decode cX9_at 12 = .ok (.iaload, 1) := by decide +kernel
theorem dX9_at_13 : decode cX9_at 13 = .ok (.goto 4, 3) := by decide +kernel
theorem dX9_at_16 : decode cX9_at 16 = .ok (.iconst 0, 1) := by decide +kernel
theorem dX9_at_17 : decode cX9_at 17 = .ok (.ireturn, 1) := by decide +kernel
theorem dX9_put_0 : decode cX9_put 0 = .ok (.iload_n 1, 1) := by decide +kernel
theorem dX9_put_1 : decode cX9_put 1 = .ok (.ifCond .lt 13, 3) := by decide +kernel
theorem dX9_put_4 : decode cX9_put 4 = .ok (.iload_n 1, 1) := by decide +kernel
theorem dX9_put_5 : decode cX9_put 5 = .ok (.aload_n 0, 1) := by decide +kernel
theorem dX9_put_6 : decode cX9_put 6 = .ok (.arraylength, 1) := by decide +kernel
theorem dX9_put_7 : decode cX9_put 7 = .ok (.if_icmp .ge 7, 3) := by decide +kernel
theorem dX9_put_10 : decode cX9_put 10 = .ok (.aload_n 0, 1) := by decide +kernel
theorem dX9_put_11 : decode cX9_put 11 = .ok (.iload_n 1, 1) := by decide +kernel
theorem dX9_put_12 : decode cX9_put 12 = .ok (.iload_n 2, 1) := by decide +kernel
theorem dX9_put_13 : decode cX9_put 13 = .ok (.iastore, 1) := by decide +kernel
theorem dX9_put_14 : decode cX9_put 14 = .ok (.return_, 1) := by decide +kernel
theorem dX9_at__0 : decode cX9_at_ 0 = .ok (.iload_n 1, 1) := by decide +kernel
theorem dX9_at__1 : decode cX9_at_ 1 = .ok (.ifCond .lt 15, 3) := by decide +kernel
theorem dX9_at__4 : decode cX9_at_ 4 = .ok (.iload_n 1, 1) := by decide +kernel
theorem dX9_at__5 : decode cX9_at_ 5 = .ok (.aload_n 0, 1) := by decide +kernel
theorem dX9_at__6 : decode cX9_at_ 6 = .ok (.arraylength, 1) := by decide +kernel
theorem dX9_at__7 : decode cX9_at_ 7 = .ok (.if_icmp .ge 9, 3) := by decide +kernel
theorem dX9_at__10 : decode cX9_at_ 10 = .ok (.aload_n 0, 1) := by decide +kernel
theorem dX9_at__11 : decode cX9_at_ 11 = .ok (.iload_n 1, 1) := by decide +kernel
theorem dX9_at__12 : decode cX9_at_ 12 = .ok (.laload, 1) := by decide +kernel
theorem dX9_at__13 : decode cX9_at_ 13 = .ok (.goto 4, 3) := by decide +kernel
theorem dX9_at__16 : decode cX9_at_ 16 = .ok (.lconst 0, 1) := by decide +kernel
theorem dX9_at__17 : decode cX9_at_ 17 = .ok (.lreturn, 1) := by decide +kernel
theorem dX9_put__0 : decode cX9_put_ 0 = .ok (.iload_n 1, 1) := by decide +kernel
theorem dX9_put__1 : decode cX9_put_ 1 = .ok (.ifCond .lt 13, 3) := by decide +kernel
theorem dX9_put__4 : decode cX9_put_ 4 = .ok (.iload_n 1, 1) := by decide +kernel
theorem dX9_put__5 : decode cX9_put_ 5 = .ok (.aload_n 0, 1) := by decide +kernel
theorem dX9_put__6 : decode cX9_put_ 6 = .ok (.arraylength, 1) := by decide +kernel
theorem dX9_put__7 : decode cX9_put_ 7 = .ok (.if_icmp .ge 7, 3) := by decide +kernel
theorem dX9_put__10 : decode cX9_put_ 10 = .ok (.aload_n 0, 1) := by decide +kernel
theorem dX9_put__11 : decode cX9_put_ 11 = .ok (.iload_n 1, 1) := by decide +kernel
theorem dX9_put__12 : decode cX9_put_ 12 = .ok (.lload_n 2, 1) := by decide +kernel
theorem dX9_put__13 : decode cX9_put_ 13 = .ok (.lastore, 1) := by decide +kernel
theorem dX9_put__14 : decode cX9_put_ 14 = .ok (.return_, 1) := by decide +kernel
theorem dX10_init_0 : decode cX10_init 0 = .ok (.aload_n 0, 1) := by decide +kernel
theorem dX10_init_1 : decode cX10_init 1 = .ok (.invokespecial 1, 3) := by decide +kernel
theorem dX10_init_4 : decode cX10_init 4 = .ok (.aload_n 0, 1) := by decide +kernel
theorem dX10_init_5 : decode cX10_init 5 = .ok (.sipush 807, 3) := by decide +kernel
theorem dX10_init_8 : decode cX10_init 8 = .ok (.newarray .int, 2) := by decide +kernel
theorem dX10_init_10 : decode cX10_init 10 = .ok (.putfield 7, 3) := by decide +kernel
theorem dX10_init_13 : decode cX10_init 13 = .ok (.aload_n 0, 1) := by decide +kernel
theorem dX10_init_14 : decode cX10_init 14 = .ok (.sipush 807, 3) := by decide +kernel
theorem dX10_init_17 : decode cX10_init 17 = .ok (.newarray .int, 2) := by decide +kernel
theorem dX10_init_19 : decode cX10_init 19 = .ok (.putfield 13, 3) := by decide +kernel
theorem dX10_init_22 : decode cX10_init 22 = .ok (.aload_n 0, 1) := by decide +kernel
theorem dX10_init_23 : decode cX10_init 23 = .ok (.sipush 407, 3) := by decide +kernel
theorem dX10_init_26 : decode cX10_init 26 = .ok (.newarray .int, 2) := by decide +kernel
theorem dX10_init_28 : decode cX10_init 28 = .ok (.putfield 16, 3) := by decide +kernel
theorem dX10_init_31 : decode cX10_init 31 = .ok (.aload_n 0, 1) := by decide +kernel
theorem dX10_init_32 : decode cX10_init 32 = .ok (.sipush 4884, 3) := by decide +kernel
theorem dX10_init_35 : decode cX10_init 35 = .ok (.newarray .int, 2) := by decide +kernel
theorem dX10_init_37 : decode cX10_init 37 = .ok (.putfield 19, 3) := by decide +kernel
theorem dX10_init_40 : decode cX10_init 40 = .ok (.aload_n 0, 1) := by decide +kernel
theorem dX10_init_41 : decode cX10_init 41 = .ok (.sipush 400, 3) := by decide +kernel
theorem dX10_init_44 : decode cX10_init 44 = .ok (.newarray .int, 2) := by decide +kernel
theorem dX10_init_46 : decode cX10_init 46 = .ok (.putfield 22, 3) := by decide +kernel
theorem dX10_init_49 : decode cX10_init 49 = .ok (.aload_n 0, 1) := by decide +kernel
theorem dX10_init_50 : decode cX10_init 50 = .ok (.iconst (-1), 1) := by decide +kernel
theorem dX10_init_51 : decode cX10_init 51 = .ok (.putfield 25, 3) := by decide +kernel
theorem dX10_init_54 : decode cX10_init 54 = .ok (.aload_n 0, 1) := by decide +kernel
theorem dX10_init_55 : decode cX10_init 55 = .ok (.bipush 6, 2) := by decide +kernel
theorem dX10_init_57 : decode cX10_init 57 = .ok (.newarray .int, 2) := by decide +kernel
theorem dX10_init_59 : decode cX10_init 59 = .ok (.putfield 29, 3) := by decide +kernel
theorem dX10_init_62 : decode cX10_init 62 = .ok (.aload_n 0, 1) := by decide +kernel
theorem dX10_init_63 : decode cX10_init 63 = .ok (.bipush 90, 2) := by decide +kernel
theorem dX10_init_65 : decode cX10_init 65 = .ok (.newarray .int, 2) := by decide +kernel
theorem dX10_init_67 : decode cX10_init 67 = .ok (.putfield 32, 3) := by decide +kernel
theorem dX10_init_70 : decode cX10_init 70 = .ok (.aload_n 0, 1) := by decide +kernel
theorem dX10_init_71 : decode cX10_init 71 = .ok (.bipush 10, 2) := by decide +kernel
theorem dX10_init_73 : decode cX10_init 73 = .ok (.newarray .int, 2) := by decide +kernel
theorem dX10_init_75 : decode cX10_init 75 = .ok (.putfield 35, 3) := by decide +kernel
theorem dX10_init_78 : decode cX10_init 78 = .ok (.aload_n 0, 1) := by decide +kernel
theorem dX10_init_79 : decode cX10_init 79 = .ok (.bipush 10, 2) := by decide +kernel
theorem dX10_init_81 : decode cX10_init 81 = .ok (.newarray .int, 2) := by decide +kernel
theorem dX10_init_83 : decode cX10_init 83 = .ok (.putfield 38, 3) := by decide +kernel
theorem dX10_init_86 : decode cX10_init 86 = .ok (.aload_n 0, 1) := by decide +kernel
theorem dX10_init_87 : decode cX10_init 87 = .ok (.bipush 9, 2) := by decide +kernel
theorem dX10_init_89 : decode cX10_init 89 = .ok (.newarray .int, 2) := by decide +kernel
theorem dX10_init_91 : decode cX10_init 91 = .ok (.putfield 41, 3) := by decide +kernel
theorem dX10_init_94 : decode cX10_init 94 = .ok (.aload_n 0, 1) := by decide +kernel
theorem dX10_init_95 : decode cX10_init 95 = .ok (.bipush 10, 2) := by decide +kernel
theorem dX10_init_97 : decode cX10_init 97 = .ok (.newarray .int, 2) := by decide +kernel
theorem dX10_init_99 : decode cX10_init 99 = .ok (.putfield 44, 3) := by decide +kernel
theorem dX10_init_102 : decode cX10_init 102 = .ok (.aload_n 0, 1) := by decide +kernel
theorem dX10_init_103 : decode cX10_init 103 = .ok (.bipush 10, 2) := by decide +kernel
theorem dX10_init_105 : decode cX10_init 105 = .ok (.newarray .int, 2) := by decide +kernel
theorem dX10_init_107 : decode cX10_init 107 = .ok (.putfield 47, 3) := by decide +kernel
theorem dX10_init_110 : decode cX10_init 110 = .ok (.aload_n 0, 1) := by decide +kernel
theorem dX10_init_111 : decode cX10_init 111 = .ok (.bipush 9, 2) := by decide +kernel
theorem dX10_init_113 : decode cX10_init 113 = .ok (.newarray .int, 2) := by decide +kernel
theorem dX10_init_115 : decode cX10_init 115 = .ok (.putfield 50, 3) := by decide +kernel
theorem dX10_init_118 : decode cX10_init 118 = .ok (.aload_n 0, 1) := by decide +kernel
theorem dX10_init_119 : decode cX10_init 119 = .ok (.bipush 19, 2) := by decide +kernel
theorem dX10_init_121 : decode cX10_init 121 = .ok (.newarray .int, 2) := by decide +kernel
theorem dX10_init_123 : decode cX10_init 123 = .ok (.putfield 53, 3) := by decide +kernel
theorem dX10_init_126 : decode cX10_init 126 = .ok (.aload_n 0, 1) := by decide +kernel
theorem dX10_init_127 : decode cX10_init 127 = .ok (.bipush 19, 2) := by decide +kernel
theorem dX10_init_129 : decode cX10_init 129 = .ok (.newarray .int, 2) := by decide +kernel
theorem dX10_init_131 : decode cX10_init 131 = .ok (.putfield 56, 3) := by decide +kernel
theorem dX10_init_134 : decode cX10_init 134 = .ok (.aload_n 0, 1) := by decide +kernel
theorem dX10_init_135 : decode cX10_init 135 = .ok (.bipush 64, 2) := by decide +kernel
theorem dX10_init_137 : decode cX10_init 137 = .ok (.newarray .boolean, 2) := by decide +kernel
theorem dX10_init_139 : decode cX10_init 139 = .ok (.putfield 59, 3) := by decide +kernel
theorem dX10_init_142 : decode cX10_init 142 = .ok (.aload_n 0, 1) := by decide +kernel
theorem dX10_init_143 : decode cX10_init 143 = .ok (.getfield 7, 3) := by decide +kernel
theorem dX10_init_146 : decode cX10_init 146 = .ok (.iconst 1, 1) := by decide +kernel
theorem dX10_init_147 : decode cX10_init 147 = .ok (.iconst (-1), 1) := by decide +kernel
theorem dX10_init_148 : decode cX10_init 148 = .ok (.iastore, 1) := by decide +kernel
theorem dX10_init_149 : decode cX10_init 149 = .ok (.aload_n 0, 1) := by decide +kernel
theorem dX10_init_150 : decode cX10_init 150 = .ok (.getfield 7, 3) := by decide +kernel
theorem dX10_init_153 : decode cX10_init 153 = .ok (.iconst 5, 1) := by decide +kernel
theorem dX10_init_154 : decode cX10_init 154 = .ok (.iconst 2, 1) := by decide +kernel
theorem dX10_init_155 : decode cX10_init 155 = .ok (.iastore, 1) := by decide +kernel
theorem dX10_init_156 : decode cX10_init 156 = .ok (.aload_n 0, 1) := by decide +kernel
theorem dX10_init_157 : decode cX10_init 157 = .ok (.getfield 7, 3) := by decide +kernel
theorem dX10_init_160 : decode cX10_init 160 = .ok (.bipush 9, 2) := by decide +kernel
theorem dX10_init_162 : decode cX10_init 162 = .ok (.iconst 1, 1) := by decide +kernel
theorem dX10_init_163 : decode cX10_init 163 = .ok (.iastore, 1) := by decide +kernel
theorem dX10_init_164 : decode cX10_init 164 = .ok (.return_, 1) := by decide +kernel
theorem dX10_thrown_0 : decode cX10_thrown 0 = .ok (.aload_n 0, 1) := by decide +kernel
theorem dX10_thrown_1 : decode cX10_thrown 1 = .ok (.getfield 63, 3) := by decide +kernel
theorem dX10_thrown_4 : decode cX10_thrown 4 = .ok (.ireturn, 1) := by decide +kernel
theorem dX10_isIn_0 : decode cX10_isIn 0 = .ok (.iload_n 0, 1) := by decide +kernel
theorem dX10_isIn_1 : decode cX10_isIn 1 = .ok (.iload_n 1, 1) := by decide +kernel
theorem dX10_isIn_2 : decode cX10_isIn 2 = .ok (.if_icmp .lt 12, 3) := by decide +kernel
theorem dX10_isIn_5 : decode cX10_isIn 5 = .ok (.iload_n 0, 1) := by decide +kernel
theorem dX10_isIn_6 : decode cX10_isIn 6 = .ok (.iload_n 2, 1) := by decide +kernel
theorem dX10_isIn_7 : decode cX10_isIn 7 = .ok (.if_icmp .gt 7, 3) := by decide +kernel
theorem dX10_isIn_10 : decode cX10_isIn 10 = .ok (.iconst 1, 1) := by decide +kernel
theorem dX10_isIn_11 : decode cX10_isIn 11 = .ok (.goto 4, 3) := by decide +kernel
theorem dX10_isIn_14 : decode cX10_isIn 14 = .ok (.iconst 0, 1) := by decide +kernel
theorem dX10_isIn_15 : decode cX10_isIn 15 = .ok (.ireturn, 1) := by decide +kernel
theorem dX10_lesser_0 : decode cX10_lesser 0 = .ok (.iload_n 0, 1) := by decide +kernel
theorem dX10_lesser_1 : decode cX10_lesser 1 = .ok (.iload_n 1, 1) := by decide +kernel
theorem dX10_lesser_2 : decode cX10_lesser 2 = .ok (.if_icmp .ge 7, 3) := by decide +kernel
theorem dX10_lesser_5 : decode cX10_lesser 5 = .ok (.iload_n 0, 1) := by decide +kernel
theorem dX10_lesser_6 : decode cX10_lesser 6 = .ok (.goto 4, 3) := by decide +kernel
theorem dX10_lesser_9 : decode cX10_lesser 9 = .ok (.iload_n 1, 1) := by decide +kernel
theorem dX10_lesser_10 : decode cX10_lesser 10 = .ok (.ireturn, 1) := by decide +kernel
theorem dX10_greater_0 : decode cX10_greater 0 = .ok (.iload_n 0, 1) := by decide +kernel
theorem dX10_greater_1 : decode cX10_greater 1 = .ok (.iload_n 1, 1) := by decide +kernel
theorem dX10_greater_2 : decode cX10_greater 2 = .ok (.if_icmp .le 7, 3) := by decide +kernel
theorem dX10_greater_5 : decode cX10_greater 5 = .ok (.iload_n 0, 1) := by decide +kernel
theorem dX10_greater_6 : decode cX10_greater 6 = .ok (.goto 4, 3) := by decide +kernel
theorem dX10_greater_9 : decode cX10_greater 9 = .ok (.iload_n 1, 1) := by decide +kernel
theorem dX10_greater_10 : decode cX10_greater 10 = .ok (.ireturn, 1) := by decide +kernel
theorem dX10_isOf_0 : decode cX10_isOf 0 = .ok (.iload_n 0, 1) := by decide +kernel
theorem dX10_isOf_1 : decode cX10_isOf 1 = .ok (.iload_n 1, 1) := by decide +kernel
theorem dX10_isOf_2 : decode cX10_isOf 2 = .ok (.ishr, 1) := by decide +kernel
theorem dX10_isOf_3 : decode cX10_isOf 3 = .ok (.iconst 1, 1) := by decide +kernel
theorem dX10_isOf_4 : decode cX10_isOf 4 = .ok (.iand, 1) := by decide +kernel
theorem dX10_isOf_5 : decode cX10_isOf 5 = .ok (.iconst 1, 1) := by decide +kernel
theorem dX10_isOf_6 : decode cX10_isOf 6 = .ok (.if_icmp .ne 7, 3) := by decide +kernel
theorem dX10_isOf_9 : decode cX10_isOf 9 = .ok (.iconst 1, 1) := by decide +kernel
theorem dX10_isOf_10 : decode cX10_isOf 10 = .ok (.goto 4, 3) := by decide +kernel
theorem dX10_isOf_13 : decode cX10_isOf 13 = .ok (.iconst 0, 1) := by decide +kernel
theorem dX10_isOf_14 : decode cX10_isOf 14 = .ok (.ireturn, 1) := by decide +kernel
theorem dX10_bits_0 : decode cX10_bits 0 = .ok (.iconst 0, 1) := by decide +kernel
theorem dX10_bits_1 : decode cX10_bits 1 = .ok (.istore_n 1, 1) := by decide +kernel
theorem dX10_bits_2 : decode cX10_bits 2 = .ok (.iconst 0, 1) := by decide +kernel
theorem dX10_bits_3 : decode cX10_bits 3 = .ok (.istore_n 2, 1) := by decide +kernel
theorem dX10_bits_4 : decode cX10_bits 4 = .ok (.iload_n 2, 1) := by decide +kernel
theorem dX10_bits_5 : decode cX10_bits 5 = .ok (.bipush 31, 2) := by decide +kernel
theorem dX10_bits_7 : decode cX10_bits 7 = .ok (.if_icmp .ge 17, 3) := by decide +kernel
theorem dX10_bits_10 : decode cX10_bits 10 = .ok (.iload_n 1, 1) := by decide +kernel
theorem dX10_bits_11 : decode cX10_bits 11 = .ok (.iload_n 0, 1) := by decide +kernel
theorem dX10_bits_12 : decode cX10_bits 12 = .ok (.iload_n 2, 1) := by decide +kernel
theorem dX10_bits_13 : decode cX10_bits 13 = .ok (.ishr, 1) := by decide +kernel
theorem dX10_bits_14 : decode cX10_bits 14 = .ok (.iconst 1, 1) := by decide +kernel
theorem dX10_bits_15 : decode cX10_bits 15 = .ok (.iand, 1) := by decide +kernel
theorem dX10_bits_16 : decode cX10_bits 16 = .ok (.iadd, 1) := by decide +kernel
theorem dX10_bits_17 : decode cX10_bits 17 = .ok (.istore_n 1, 1) := by decide +kernel
theorem dX10_bits_18 : decode cX10_bits 18 = .ok (.iinc 2 1, 3) := by decide +kernel
theorem dX10_bits_21 : decode cX10_bits 21 = .ok (.goto (-17), 3) := by decide +kernel
theorem dX10_bits_24 : decode cX10_bits 24 = .ok (.iload_n 1, 1) := by decide +kernel
theorem dX10_bits_25 : decode cX10_bits 25 = .ok (.ireturn, 1) := by decide +kernel
theorem dX10_of_0 : decode cX10_of 0 = .ok (.aload_n 0, 1) := by decide +kernel
theorem dX10_of_1 : decode cX10_of 1 = .ok (.getfield 7, 3) := by decide +kernel
theorem dX10_of_4 : decode cX10_of 4 = .ok (.bipush 12, 2) := by decide +kernel
theorem dX10_of_6 : decode cX10_of 6 = .ok (.iconst 5, 1) := by decide +kernel
theorem dX10_of_7 : decode cX10_of 7 = .ok (.iload_n 1, 1) := by decide +kernel
theorem dX10_of_8 : decode cX10_of 8 = .ok (.imul, 1) := by decide +kernel
theorem dX10_of_9 : decode cX10_of 9 = .ok (.iadd, 1) := by decide +kernel
theorem dX10_of_10 : decode cX10_of 10 = .ok (.iload_n 2, 1) := by decide +kernel
theorem dX10_of_11 : decode cX10_of 11 = .ok (.iadd, 1) := by decide +kernel
theorem dX10_of_12 : decode cX10_of 12 = .ok (.iaload, 1) := by decide +kernel
theorem dX10_of_13 : decode cX10_of 13 = .ok (.ireturn, 1) := by decide +kernel
theorem dX10_ofOne_0 : decode cX10_ofOne 0 = .ok (.aload_n 0, 1) := by decide +kernel
theorem dX10_ofOne_1 : decode cX10_ofOne 1 = .ok (.getfield 7, 3) := by decide +kernel
theorem dX10_ofOne_4 : decode cX10_ofOne 4 = .ok (.bipush 57, 2) := by decide +kernel
theorem dX10_ofOne_6 : decode cX10_ofOne 6 = .ok (.iconst 5, 1) := by decide +kernel
theorem dX10_ofOne_7 : decode cX10_ofOne 7 = .ok (.iload_n 1, 1) := by decide +kernel
theorem dX10_ofOne_8 : decode cX10_ofOne 8 = .ok (.imul, 1) := by decide +kernel
theorem dX10_ofOne_9 : decode cX10_ofOne 9 = .ok (.iadd, 1) := by decide +kernel
theorem dX10_ofOne_10 : decode cX10_ofOne 10 = .ok (.iload_n 2, 1) := by decide +kernel
theorem dX10_ofOne_11 : decode cX10_ofOne 11 = .ok (.iadd, 1) := by decide +kernel
theorem dX10_ofOne_12 : decode cX10_ofOne 12 = .ok (.iaload, 1) := by decide +kernel
theorem dX10_ofOne_13 : decode cX10_ofOne 13 = .ok (.ireturn, 1) := by decide +kernel
theorem dX10_isThing_0 : decode cX10_isThing 0 = .ok (.iload_n 1, 1) := by decide +kernel
theorem dX10_isThing_1 : decode cX10_isThing 1 = .ok (.iconst 0, 1) := by decide +kernel
theorem dX10_isThing_2 : decode cX10_isThing 2 = .ok (.aload_n 0, 1) := by decide +kernel
theorem dX10_isThing_3 : decode cX10_isThing 3 = .ok (.getfield 7, 3) := by decide +kernel
theorem dX10_isThing_6 : decode cX10_isThing 6 = .ok (.iconst 3, 1) := by decide +kernel
theorem dX10_isThing_7 : decode cX10_isThing 7 = .ok (.iaload, 1) := by decide +kernel
theorem dX10_isThing_8 : decode cX10_isThing 8 = .ok (.iconst 1, 1) := by decide +kernel
theorem dX10_isThing_9 : decode cX10_isThing 9 = .ok (.isub, 1) := by decide +kernel
theorem dX10_isThing_10 : decode cX10_isThing 10 = .ok (.invokestatic 66, 3) := by decide +kernel
theorem dX10_isThing_13 : decode cX10_isThing 13 = .ok (.ireturn, 1) := by decide +kernel
theorem dX10_isVisitor_0 : decode cX10_isVisitor 0 = .ok (.iload_n 1, 1) := by decide +kernel
theorem dX10_isVisitor_1 : decode cX10_isVisitor 1 = .ok (.iconst 0, 1) := by decide +kernel
theorem dX10_isVisitor_2 : decode cX10_isVisitor 2 = .ok (.aload_n 0, 1) := by decide +kernel
theorem dX10_isVisitor_3 : decode cX10_isVisitor 3 = .ok (.getfield 7, 3) := by decide +kernel
theorem dX10_isVisitor_6 : decode cX10_isVisitor 6 = .ok (.iconst 4, 1) := by decide +kernel
theorem dX10_isVisitor_7 : decode cX10_isVisitor 7 = .ok (.iaload, 1) := by decide +kernel
theorem dX10_isVisitor_8 : decode cX10_isVisitor 8 = .ok (.iconst 1, 1) := by decide +kernel
theorem dX10_isVisitor_9 : decode cX10_isVisitor 9 = .ok (.isub, 1) := by decide +kernel
theorem dX10_isVisitor_10 : decode cX10_isVisitor 10 = .ok (.invokestatic 66, 3) := by decide +kernel
theorem dX10_isVisitor_13 : decode cX10_isVisitor 13 = .ok (.ireturn, 1) := by decide +kernel
theorem dX10_thingAt_0 : decode cX10_thingAt 0 = .ok (.iconst 0, 1) := by decide +kernel
theorem dX10_thingAt_1 : decode cX10_thingAt 1 = .ok (.istore_n 2, 1) := by decide +kernel
theorem dX10_thingAt_2 : decode cX10_thingAt 2 = .ok (.iload_n 2, 1) := by decide +kernel
theorem dX10_thingAt_3 : decode cX10_thingAt 3 = .ok (.aload_n 0, 1) := by decide +kernel
theorem dX10_thingAt_4 : decode cX10_thingAt 4 = .ok (.getfield 7, 3) := by decide +kernel
theorem dX10_thingAt_7 : decode cX10_thingAt 7 = .ok (.iconst 3, 1) := by decide +kernel
theorem dX10_thingAt_8 : decode cX10_thingAt 8 = .ok (.iaload, 1) := by decide +kernel
theorem dX10_thingAt_9 : decode cX10_thingAt 9 = .ok (.if_icmp .ge 21, 3) := by decide +kernel
theorem dX10_thingAt_12 : decode cX10_thingAt 12 = .ok (.aload_n 0, 1) := by decide +kernel
theorem dX10_thingAt_13 : decode cX10_thingAt 13 = .ok (.iload_n 2, 1) := by decide +kernel
theorem dX10_thingAt_14 : decode cX10_thingAt 14 = .ok (.iconst 0, 1) := by decide +kernel
theorem dX10_thingAt_15 : decode cX10_thingAt 15 = .ok (.invokevirtual 70, 3) := by decide +kernel
theorem dX10_thingAt_18 : decode cX10_thingAt 18 = .ok (.iload_n 1, 1) := by decide +kernel
theorem dX10_thingAt_19 : decode cX10_thingAt 19 = .ok (.if_icmp .ne 5, 3) := by decide +kernel
theorem dX10_thingAt_22 : decode cX10_thingAt 22 = .ok (.iload_n 2, 1) := by decide +kernel
theorem dX10_thingAt_23 : decode cX10_thingAt 23 = .ok (.ireturn, 1) := by decide +kernel
theorem dX10_thingAt_24 : decode cX10_thingAt 24 = .ok (.iinc 2 1, 3) := by decide +kernel
theorem dX10_thingAt_27 : decode cX10_thingAt 27 = .ok (.goto (-25), 3) := by decide +kernel
theorem dX10_thingAt_30 : decode cX10_thingAt 30 = .ok (.iconst (-1), 1) := by decide +kernel
theorem dX10_thingAt_31 : decode cX10_thingAt 31 = .ok (.ireturn, 1) := by decide +kernel
theorem dX10_feed_0 : decode cX10_feed 0 = .ok (.aload_n 0, 1) := by decide +kernel
theorem dX10_feed_1 : decode cX10_feed 1 = .ok (.iconst 0, 1) := by decide +kernel
theorem dX10_feed_2 : decode cX10_feed 2 = .ok (.putfield 63, 3) := by decide +kernel
theorem dX10_feed_5 : decode cX10_feed 5 = .ok (.aload_n 0, 1) := by decide +kernel
theorem dX10_feed_6 : decode cX10_feed 6 = .ok (.getfield 74, 3) := by decide +kernel
theorem dX10_feed_9 : decode cX10_feed 9 = .ok (.bipush 20, 2) := by decide +kernel
theorem dX10_feed_11 : decode cX10_feed 11 = .ok (.iadd, 1) := by decide +kernel
theorem dX10_feed_12 : decode cX10_feed 12 = .ok (.sipush 400, 3) := by decide +kernel
theorem dX10_feed_15 : decode cX10_feed 15 = .ok (.if_icmp .le 5, 3) := by decide +kernel
theorem dX10_feed_18 : decode cX10_feed 18 = .ok (.iconst (-1), 1) := by decide +kernel
theorem dX10_feed_19 : decode cX10_feed 19 = .ok (.ireturn, 1) := by decide +kernel
theorem dX10_feed_20 : decode cX10_feed 20 = .ok (.iconst 0, 1) := by decide +kernel
theorem dX10_feed_21 : decode cX10_feed 21 = .ok (.istore 6, 2) := by decide +kernel
theorem dX10_feed_23 : decode cX10_feed 23 = .ok (.iload 6, 2) := by decide +kernel
theorem dX10_feed_25 : decode cX10_feed 25 = .ok (.bipush 20, 2) := by decide +kernel
theorem dX10_feed_27 : decode cX10_feed 27 = .ok (.if_icmp .ge 93, 3) := by decide +kernel
theorem dX10_feed_30 : decode cX10_feed 30 = .ok (.iload 6, 2) := by decide +kernel
theorem dX10_feed_32 : decode cX10_feed 32 = .ok (.iconst 4, 1) := by decide +kernel
theorem dX10_feed_33 : decode cX10_feed 33 = .ok (.if_icmp .ge 7, 3) := by decide +kernel
theorem dX10_feed_36 : decode cX10_feed 36 = .ok (.iload_n 1, 1) := by decide +kernel
theorem dX10_feed_37 : decode cX10_feed 37 = .ok (.goto 39, 3) := by decide +kernel
theorem dX10_feed_40 : decode cX10_feed 40 = .ok (.iload 6, 2) := by decide +kernel
theorem dX10_feed_42 : decode cX10_feed 42 = .ok (.bipush 8, 2) := by decide +kernel
theorem dX10_feed_44 : decode cX10_feed 44 = .ok (.if_icmp .ge 7, 3) := by decide +kernel
theorem dX10_feed_47 : decode cX10_feed 47 = .ok (.iload_n 2, 1) := by decide +kernel
theorem dX10_feed_48 : decode cX10_feed 48 = .ok (.goto 28, 3) := by decide +kernel
theorem dX10_feed_51 : decode cX10_feed 51 = .ok (.iload 6, 2) := by decide +kernel
theorem dX10_feed_53 : decode cX10_feed 53 = .ok (.bipush 12, 2) := by decide +kernel
theorem dX10_feed_55 : decode cX10_feed 55 = .ok (.if_icmp .ge 7, 3) := by decide +kernel
theorem dX10_feed_58 : decode cX10_feed 58 = .ok (.iload_n 3, 1) := by decide +kernel
theorem dX10_feed_59 : decode cX10_feed 59 = .ok (.goto 17, 3) := by decide +kernel
theorem dX10_feed_62 : decode cX10_feed 62 = .ok (.iload 6, 2) := by decide +kernel
theorem dX10_feed_64 : decode cX10_feed 64 = .ok (.bipush 16, 2) := by decide +kernel
theorem dX10_feed_66 : decode cX10_feed 66 = .ok (.if_icmp .ge 8, 3) := by decide +kernel
theorem dX10_feed_69 : decode cX10_feed 69 = .ok (.iload 4, 2) := by decide +kernel
theorem dX10_feed_71 : decode cX10_feed 71 = .ok (.goto 5, 3) := by decide +kernel
theorem dX10_feed_74 : decode cX10_feed 74 = .ok (.iload 5, 2) := by decide +kernel
theorem dX10_feed_76 : decode cX10_feed 76 = .ok (.istore 7, 2) := by decide +kernel
theorem dX10_feed_78 : decode cX10_feed 78 = .ok (.aload_n 0, 1) := by decide +kernel
theorem dX10_feed_79 : decode cX10_feed 79 = .ok (.getfield 22, 3) := by decide +kernel
theorem dX10_feed_82 : decode cX10_feed 82 = .ok (.aload_n 0, 1) := by decide +kernel
theorem dX10_feed_83 : decode cX10_feed 83 = .ok (.getfield 74, 3) := by decide +kernel
theorem dX10_feed_86 : decode cX10_feed 86 = .ok (.iload 7, 2) := by decide +kernel
theorem dX10_feed_88 : decode cX10_feed 88 = .ok (.bipush 24, 2) := by decide +kernel
theorem dX10_feed_90 : decode cX10_feed 90 = .ok (.bipush 8, 2) := by decide +kernel
theorem dX10_feed_92 : decode cX10_feed 92 = .ok (.iload 6, 2) := by decide +kernel
theorem dX10_feed_94 : decode cX10_feed 94 = .ok (.iconst 4, 1) := by decide +kernel
theorem dX10_feed_95 : decode cX10_feed 95 = .ok (.irem, 1) := by decide +kernel
theorem dX10_feed_96 : decode cX10_feed 96 = .ok (.imul, 1) := by decide +kernel
theorem dX10_feed_97 : decode cX10_feed 97 = .ok (.isub, 1) := by decide +kernel
theorem dX10_feed_98 : decode cX10_feed 98 = .ok (.iushr, 1) := by decide +kernel
theorem dX10_feed_99 : decode cX10_feed 99 = .ok (.sipush 255, 3) := by decide +kernel
theorem dX10_feed_102 : decode cX10_feed 102 = .ok (.iand, 1) := by decide +kernel
theorem dX10_feed_103 : decode cX10_feed 103 = .ok (.iastore, 1) := by decide +kernel
theorem dX10_feed_104 : decode cX10_feed 104 = .ok (.aload_n 0, 1) := by decide +kernel
theorem dX10_feed_105 : decode cX10_feed 105 = .ok (.dup, 1) := by decide +kernel
theorem dX10_feed_106 : decode cX10_feed 106 = .ok (.getfield 74, 3) := by decide +kernel
theorem dX10_feed_109 : decode cX10_feed 109 = .ok (.iconst 1, 1) := by decide +kernel
theorem dX10_feed_110 : decode cX10_feed 110 = .ok (.iadd, 1) := by decide +kernel
theorem dX10_feed_111 : decode cX10_feed 111 = .ok (.putfield 74, 3) := by decide +kernel
theorem dX10_feed_114 : decode cX10_feed 114 = .ok (.iinc 6 1, 3) := by decide +kernel
theorem dX10_feed_117 : decode cX10_feed 117 = .ok (.goto (-94), 3) := by decide +kernel
theorem dX10_feed_120 : decode cX10_feed 120 = .ok (.aload_n 0, 1) := by decide +kernel
theorem dX10_feed_121 : decode cX10_feed 121 = .ok (.getfield 74, 3) := by decide +kernel
theorem dX10_feed_124 : decode cX10_feed 124 = .ok (.ireturn, 1) := by decide +kernel
theorem dX10_end_0 : decode cX10_end 0 = .ok (.aload_n 0, 1) := by decide +kernel
theorem dX10_end_1 : decode cX10_end 1 = .ok (.iconst 0, 1) := by decide +kernel
theorem dX10_end_2 : decode cX10_end 2 = .ok (.putfield 63, 3) := by decide +kernel
theorem dX10_end_5 : decode cX10_end 5 = .ok (.iload_n 1, 1) := by decide +kernel
theorem dX10_end_6 : decode cX10_end 6 = .ok (.iconst 0, 1) := by decide +kernel
theorem dX10_end_7 : decode cX10_end 7 = .ok (.aload_n 0, 1) := by decide +kernel
theorem dX10_end_8 : decode cX10_end 8 = .ok (.getfield 74, 3) := by decide +kernel
theorem dX10_end_11 : decode cX10_end 11 = .ok (.invokestatic 66, 3) := by decide +kernel
theorem dX10_end_14 : decode cX10_end 14 = .ok (.ifCond .ne 5, 3) := by decide +kernel
theorem dX10_end_17 : decode cX10_end 17 = .ok (.iconst 0, 1) := by decide +kernel
theorem dX10_end_18 : decode cX10_end 18 = .ok (.ireturn, 1) := by decide +kernel
theorem dX10_end_19 : decode cX10_end 19 = .ok (.aload_n 0, 1) := by decide +kernel
theorem dX10_end_20 : decode cX10_end 20 = .ok (.iload_n 1, 1) := by decide +kernel
theorem dX10_end_21 : decode cX10_end 21 = .ok (.putfield 74, 3) := by decide +kernel
theorem dX10_end_24 : decode cX10_end 24 = .ok (.iconst 1, 1) := by decide +kernel
theorem dX10_end_25 : decode cX10_end 25 = .ok (.ireturn, 1) := by decide +kernel
theorem dX10_letter_0 : decode cX10_letter 0 = .ok (.aload_n 0, 1) := by decide +kernel
theorem dX10_letter_1 : decode cX10_letter 1 = .ok (.getfield 77, 3) := by decide +kernel
theorem dX10_letter_4 : decode cX10_letter 4 = .ok (.iconst (-1), 1) := by decide +kernel
theorem dX10_letter_5 : decode cX10_letter 5 = .ok (.if_icmp .ne 12, 3) := by decide +kernel
theorem dX10_letter_8 : decode cX10_letter 8 = .ok (.aload_n 0, 1) := by decide +kernel
theorem dX10_letter_9 : decode cX10_letter 9 = .ok (.getfield 22, 3) := by decide +kernel
theorem dX10_letter_12 : decode cX10_letter 12 = .ok (.iload_n 1, 1) := by decide +kernel
theorem dX10_letter_13 : decode cX10_letter 13 = .ok (.iaload, 1) := by decide +kernel
theorem dX10_letter_14 : decode cX10_letter 14 = .ok (.goto 14, 3) := by decide +kernel
theorem dX10_letter_17 : decode cX10_letter 17 = .ok (.aload_n 0, 1) := by decide +kernel
theorem dX10_letter_18 : decode cX10_letter 18 = .ok (.getfield 7, 3) := by decide +kernel
theorem dX10_letter_21 : decode cX10_letter 21 = .ok (.aload_n 0, 1) := by decide +kernel
theorem dX10_letter_22 : decode cX10_letter 22 = .ok (.getfield 77, 3) := by decide +kernel
theorem dX10_letter_25 : decode cX10_letter 25 = .ok (.iload_n 1, 1) := by decide +kernel
theorem dX10_letter_26 : decode cX10_letter 26 = .ok (.iadd, 1) := by decide +kernel
theorem dX10_letter_27 : decode cX10_letter 27 = .ok (.iaload, 1) := by decide +kernel
theorem dX10_letter_28 : decode cX10_letter 28 = .ok (.ireturn, 1) := by decide +kernel
theorem dX10_skip_0 : decode cX10_skip 0 = .ok (.aload_n 0, 1) := by decide +kernel
theorem dX10_skip_1 : decode cX10_skip 1 = .ok (.getfield 80, 3) := by decide +kernel
theorem dX10_skip_4 : decode cX10_skip 4 = .ok (.aload_n 0, 1) := by decide +kernel
theorem dX10_skip_5 : decode cX10_skip 5 = .ok (.getfield 83, 3) := by decide +kernel
theorem dX10_skip_8 : decode cX10_skip 8 = .ok (.if_icmp .ge 29, 3) := by decide +kernel
theorem dX10_skip_11 : decode cX10_skip 11 = .ok (.aload_n 0, 1) := by decide +kernel
theorem dX10_skip_12 : decode cX10_skip 12 = .ok (.aload_n 0, 1) := by decide +kernel
theorem dX10_skip_13 : decode cX10_skip 13 = .ok (.getfield 80, 3) := by decide +kernel
theorem dX10_skip_16 : decode cX10_skip 16 = .ok (.invokevirtual 86, 3) := by decide +kernel
theorem dX10_skip_19 : decode cX10_skip 19 = .ok (.bipush 32, 2) := by decide +kernel
theorem dX10_skip_21 : decode cX10_skip 21 = .ok (.if_icmp .ne 16, 3) := by decide +kernel
theorem dX10_skip_24 : decode cX10_skip 24 = .ok (.aload_n 0, 1) := by decide +kernel
theorem dX10_skip_25 : decode cX10_skip 25 = .ok (.dup, 1) := by decide +kernel
theorem dX10_skip_26 : decode cX10_skip 26 = .ok (.getfield 80, 3) := by decide +kernel
theorem dX10_skip_29 : decode cX10_skip 29 = .ok (.iconst 1, 1) := by decide +kernel
theorem dX10_skip_30 : decode cX10_skip 30 = .ok (.iadd, 1) := by decide +kernel
theorem dX10_skip_31 : decode cX10_skip 31 = .ok (.putfield 80, 3) := by decide +kernel
theorem dX10_skip_34 : decode cX10_skip 34 = .ok (.goto (-34), 3) := by decide +kernel
theorem dX10_skip_37 : decode cX10_skip 37 = .ok (.return_, 1) := by decide +kernel
theorem dX10_isSign_0 : decode cX10_isSign 0 = .ok (.aload_n 0, 1) := by decide +kernel
theorem dX10_isSign_1 : decode cX10_isSign 1 = .ok (.invokevirtual 90, 3) := by decide +kernel
theorem dX10_isSign_4 : decode cX10_isSign 4 = .ok (.aload_n 0, 1) := by decide +kernel
theorem dX10_isSign_5 : decode cX10_isSign 5 = .ok (.getfield 80, 3) := by decide +kernel
theorem dX10_isSign_8 : decode cX10_isSign 8 = .ok (.aload_n 0, 1) := by decide +kernel
theorem dX10_isSign_9 : decode cX10_isSign 9 = .ok (.getfield 83, 3) := by decide +kernel
theorem dX10_isSign_12 : decode cX10_isSign 12 = .ok (.if_icmp .ge 19, 3) := by decide +kernel
theorem dX10_isSign_15 : decode cX10_isSign 15 = .ok (.aload_n 0, 1) := by decide +kernel
theorem dX10_isSign_16 : decode cX10_isSign 16 = .ok (.aload_n 0, 1) := by decide +kernel
theorem dX10_isSign_17 : decode cX10_isSign 17 = .ok (.getfield 80, 3) := by decide +kernel
theorem dX10_isSign_20 : decode cX10_isSign 20 = .ok (.invokevirtual 86, 3) := by decide +kernel
theorem dX10_isSign_23 : decode cX10_isSign 23 = .ok (.iload_n 1, 1) := by decide +kernel
theorem dX10_isSign_24 : decode cX10_isSign 24 = .ok (.if_icmp .ne 7, 3) := by decide +kernel
theorem dX10_isSign_27 : decode cX10_isSign 27 = .ok (.iconst 1, 1) := by decide +kernel
theorem dX10_isSign_28 : decode cX10_isSign 28 = .ok (.goto 4, 3) := by decide +kernel
theorem dX10_isSign_31 : decode cX10_isSign 31 = .ok (.iconst 0, 1) := by decide +kernel
theorem dX10_isSign_32 : decode cX10_isSign 32 = .ok (.ireturn, 1) := by decide +kernel
theorem dX10_says_0 : decode cX10_says 0 = .ok (.aload_n 0, 1) := by decide +kernel
theorem dX10_says_1 : decode cX10_says 1 = .ok (.invokevirtual 90, 3) := by decide +kernel
theorem dX10_says_4 : decode cX10_says 4 = .ok (.aload_n 0, 1) := by decide +kernel
theorem dX10_says_5 : decode cX10_says 5 = .ok (.getfield 80, 3) := by decide +kernel
theorem dX10_says_8 : decode cX10_says 8 = .ok (.istore_n 2, 1) := by decide +kernel
theorem dX10_says_9 : decode cX10_says 9 = .ok (.iload_n 2, 1) := by decide +kernel
theorem dX10_says_10 : decode cX10_says 10 = .ok (.aload_n 0, 1) := by decide +kernel
theorem dX10_says_11 : decode cX10_says 11 = .ok (.getfield 83, 3) := by decide +kernel
theorem dX10_says_14 : decode cX10_says 14 = .ok (.if_icmp .ge 24, 3) := by decide +kernel
theorem dX10_says_17 : decode cX10_says 17 = .ok (.aload_n 0, 1) := by decide +kernel
theorem dX10_says_18 : decode cX10_says 18 = .ok (.iload_n 2, 1) := by decide +kernel
theorem dX10_says_19 : decode cX10_says 19 = .ok (.invokevirtual 86, 3) := by decide +kernel
theorem dX10_says_22 : decode cX10_says 22 = .ok (.bipush 97, 2) := by decide +kernel
theorem dX10_says_24 : decode cX10_says 24 = .ok (.bipush 122, 2) := by decide +kernel
theorem dX10_says_26 : decode cX10_says 26 = .ok (.invokestatic 66, 3) := by decide +kernel
theorem dX10_says_29 : decode cX10_says 29 = .ok (.ifCond .eq 9, 3) := by decide +kernel
theorem dX10_says_32 : decode cX10_says 32 = .ok (.iinc 2 1, 3) := by decide +kernel
theorem dX10_says_35 : decode cX10_says 35 = .ok (.goto (-26), 3) := by decide +kernel
theorem dX10_says_38 : decode cX10_says 38 = .ok (.iload_n 2, 1) := by decide +kernel
theorem dX10_says_39 : decode cX10_says 39 = .ok (.aload_n 0, 1) := by decide +kernel
theorem dX10_says_40 : decode cX10_says 40 = .ok (.getfield 80, 3) := by decide +kernel
theorem dX10_says_43 : decode cX10_says 43 = .ok (.isub, 1) := by decide +kernel
theorem dX10_says_44 : decode cX10_says 44 = .ok (.aload_n 1, 1) := by decide +kernel
theorem dX10_says_45 : decode cX10_says 45 = .ok (.invokevirtual 93, 3) := by decide +kernel
theorem dX10_says_48 : decode cX10_says 48 = .ok (.if_icmp .eq 5, 3) := by decide +kernel
theorem dX10_says_51 : decode cX10_says 51 = .ok (.iconst 0, 1) := by decide +kernel
theorem dX10_says_52 : decode cX10_says 52 = .ok (.ireturn, 1) := by decide +kernel
theorem dX10_says_53 : decode cX10_says 53 = .ok (.iconst 0, 1) := by decide +kernel
theorem dX10_says_54 : decode cX10_says 54 = .ok (.istore_n 3, 1) := by decide +kernel
theorem dX10_says_55 : decode cX10_says 55 = .ok (.iload_n 3, 1) := by decide +kernel
theorem dX10_says_56 : decode cX10_says 56 = .ok (.aload_n 1, 1) := by decide +kernel
theorem dX10_says_57 : decode cX10_says 57 = .ok (.invokevirtual 93, 3) := by decide +kernel
theorem dX10_says_60 : decode cX10_says 60 = .ok (.if_icmp .ge 29, 3) := by decide +kernel
theorem dX10_says_63 : decode cX10_says 63 = .ok (.aload_n 0, 1) := by decide +kernel
theorem dX10_says_64 : decode cX10_says 64 = .ok (.aload_n 0, 1) := by decide +kernel
theorem dX10_says_65 : decode cX10_says 65 = .ok (.getfield 80, 3) := by decide +kernel
theorem dX10_says_68 : decode cX10_says 68 = .ok (.iload_n 3, 1) := by decide +kernel
theorem dX10_says_69 : decode cX10_says 69 = .ok (.iadd, 1) := by decide +kernel
theorem dX10_says_70 : decode cX10_says 70 = .ok (.invokevirtual 86, 3) := by decide +kernel
theorem dX10_says_73 : decode cX10_says 73 = .ok (.aload_n 1, 1) := by decide +kernel
theorem dX10_says_74 : decode cX10_says 74 = .ok (.iload_n 3, 1) := by decide +kernel
theorem dX10_says_75 : decode cX10_says 75 = .ok (.invokevirtual 99, 3) := by decide +kernel
theorem dX10_says_78 : decode cX10_says 78 = .ok (.if_icmp .eq 5, 3) := by decide +kernel
theorem dX10_says_81 : decode cX10_says 81 = .ok (.iconst 0, 1) := by decide +kernel
theorem dX10_says_82 : decode cX10_says 82 = .ok (.ireturn, 1) := by decide +kernel
theorem dX10_says_83 : decode cX10_says 83 = .ok (.iinc 3 1, 3) := by decide +kernel
theorem dX10_says_86 : decode cX10_says 86 = .ok (.goto (-31), 3) := by decide +kernel
theorem dX10_says_89 : decode cX10_says 89 = .ok (.aload_n 0, 1) := by decide +kernel
theorem dX10_says_90 : decode cX10_says 90 = .ok (.iload_n 2, 1) := by decide +kernel
theorem dX10_says_91 : decode cX10_says 91 = .ok (.putfield 80, 3) := by decide +kernel
theorem dX10_says_94 : decode cX10_says 94 = .ok (.iconst 1, 1) := by decide +kernel
theorem dX10_says_95 : decode cX10_says 95 = .ok (.ireturn, 1) := by decide +kernel
theorem dX10_wrong_0 : decode cX10_wrong 0 = .ok (.aload_n 0, 1) := by decide +kernel
theorem dX10_wrong_1 : decode cX10_wrong 1 = .ok (.getfield 25, 3) := by decide +kernel
theorem dX10_wrong_4 : decode cX10_wrong 4 = .ok (.iconst (-1), 1) := by decide +kernel
theorem dX10_wrong_5 : decode cX10_wrong 5 = .ok (.if_icmp .ne 8, 3) := by decide +kernel
theorem dX10_wrong_8 : decode cX10_wrong 8 = .ok (.aload_n 0, 1) := by decide +kernel
theorem dX10_wrong_9 : decode cX10_wrong 9 = .ok (.iload_n 1, 1) := by decide +kernel
theorem dX10_wrong_10 : decode cX10_wrong 10 = .ok (.putfield 25, 3) := by decide +kernel
theorem dX10_wrong_13 : decode cX10_wrong 13 = .ok (.return_, 1) := by decide +kernel
theorem dX10_place_0 : decode cX10_place 0 = .ok (.aload_n 0, 1) := by decide +kernel
theorem dX10_place_1 : decode cX10_place 1 = .ok (.invokevirtual 90, 3) := by decide +kernel
theorem dX10_place_4 : decode cX10_place 4 = .ok (.aload_n 0, 1) := by decide +kernel
theorem dX10_place_5 : decode cX10_place 5 = .ok (.getfield 80, 3) := by decide +kernel
theorem dX10_place_8 : decode cX10_place 8 = .ok (.ireturn, 1) := by decide +kernel
theorem dX10_figures_0 : decode cX10_figures 0 = .ok (.aload_n 0, 1) := by decide +kernel
theorem dX10_figures_1 : decode cX10_figures 1 = .ok (.getfield 25, 3) := by decide +kernel
theorem dX10_figures_4 : decode cX10_figures 4 = .ok (.iconst (-1), 1) := by decide +kernel
theorem dX10_figures_5 : decode cX10_figures 5 = .ok (.if_icmp .eq 5, 3) := by decide +kernel
theorem dX10_figures_8 : decode cX10_figures 8 = .ok (.iconst 0, 1) := by decide +kernel
theorem dX10_figures_9 : decode cX10_figures 9 = .ok (.ireturn, 1) := by decide +kernel
theorem dX10_figures_10 : decode cX10_figures 10 = .ok (.aload_n 0, 1) := by decide +kernel
theorem dX10_figures_11 : decode cX10_figures 11 = .ok (.invokevirtual 103, 3) := by decide +kernel
theorem dX10_figures_14 : decode cX10_figures 14 = .ok (.istore_n 3, 1) := by decide +kernel
theorem dX10_figures_15 : decode cX10_figures 15 = .ok (.iconst 0, 1) := by decide +kernel
theorem dX10_figures_16 : decode cX10_figures 16 = .ok (.istore 4, 2) := by decide +kernel
theorem dX10_figures_18 : decode cX10_figures 18 = .ok (.aload_n 0, 1) := by decide +kernel
theorem dX10_figures_19 : decode cX10_figures 19 = .ok (.getfield 80, 3) := by decide +kernel
theorem dX10_figures_22 : decode cX10_figures 22 = .ok (.aload_n 0, 1) := by decide +kernel
theorem dX10_figures_23 : decode cX10_figures 23 = .ok (.getfield 83, 3) := by decide +kernel
theorem dX10_figures_26 : decode cX10_figures 26 = .ok (.if_icmp .ge 63, 3) := by decide +kernel
theorem dX10_figures_29 : decode cX10_figures 29 = .ok (.aload_n 0, 1) := by decide +kernel
theorem dX10_figures_30 : decode cX10_figures 30 = .ok (.aload_n 0, 1) := by decide +kernel
theorem dX10_figures_31 : decode cX10_figures 31 = .ok (.getfield 80, 3) := by decide +kernel
theorem dX10_figures_34 : decode cX10_figures 34 = .ok (.invokevirtual 86, 3) := by decide +kernel
theorem dX10_figures_37 : decode cX10_figures 37 = .ok (.bipush 48, 2) := by decide +kernel
theorem dX10_figures_39 : decode cX10_figures 39 = .ok (.bipush 57, 2) := by decide +kernel
theorem dX10_figures_41 : decode cX10_figures 41 = .ok (.invokestatic 66, 3) := by decide +kernel
theorem dX10_figures_44 : decode cX10_figures 44 = .ok (.ifCond .eq 45, 3) := by decide +kernel
theorem dX10_figures_47 : decode cX10_figures 47 = .ok (.aload_n 0, 1) := by decide +kernel
theorem dX10_figures_48 : decode cX10_figures 48 = .ok (.getfield 80, 3) := by decide +kernel
theorem dX10_figures_51 : decode cX10_figures 51 = .ok (.iload_n 3, 1) := by decide +kernel
theorem dX10_figures_52 : decode cX10_figures 52 = .ok (.isub, 1) := by decide +kernel
theorem dX10_figures_53 : decode cX10_figures 53 = .ok (.iconst 3, 1) := by decide +kernel
theorem dX10_figures_54 : decode cX10_figures 54 = .ok (.if_icmp .gt 35, 3) := by decide +kernel
theorem dX10_figures_57 : decode cX10_figures 57 = .ok (.bipush 10, 2) := by decide +kernel
theorem dX10_figures_59 : decode cX10_figures 59 = .ok (.iload 4, 2) := by decide +kernel
theorem dX10_figures_61 : decode cX10_figures 61 = .ok (.imul, 1) := by decide +kernel
theorem dX10_figures_62 : decode cX10_figures 62 = .ok (.aload_n 0, 1) := by decide +kernel
theorem dX10_figures_63 : decode cX10_figures 63 = .ok (.aload_n 0, 1) := by decide +kernel
theorem dX10_figures_64 : decode cX10_figures 64 = .ok (.getfield 80, 3) := by decide +kernel
theorem dX10_figures_67 : decode cX10_figures 67 = .ok (.invokevirtual 86, 3) := by decide +kernel
theorem dX10_figures_70 : decode cX10_figures 70 = .ok (.iadd, 1) := by decide +kernel
theorem dX10_figures_71 : decode cX10_figures 71 = .ok (.bipush 48, 2) := by decide +kernel
theorem dX10_figures_73 : decode cX10_figures 73 = .ok (.isub, 1) := by decide +kernel
theorem dX10_figures_74 : decode cX10_figures 74 = .ok (.istore 4, 2) := by decide +kernel
theorem dX10_figures_76 : decode cX10_figures 76 = .ok (.aload_n 0, 1) := by decide +kernel
theorem dX10_figures_77 : decode cX10_figures 77 = .ok (.dup, 1) := by decide +kernel
theorem dX10_figures_78 : decode cX10_figures 78 = .ok (.getfield 80, 3) := by decide +kernel
theorem dX10_figures_81 : decode cX10_figures 81 = .ok (.iconst 1, 1) := by decide +kernel
theorem dX10_figures_82 : decode cX10_figures 82 = .ok (.iadd, 1) := by decide +kernel
theorem dX10_figures_83 : decode cX10_figures 83 = .ok (.putfield 80, 3) := by decide +kernel
theorem dX10_figures_86 : decode cX10_figures 86 = .ok (.goto (-68), 3) := by decide +kernel
theorem dX10_figures_89 : decode cX10_figures 89 = .ok (.aload_n 0, 1) := by decide +kernel
theorem dX10_figures_90 : decode cX10_figures 90 = .ok (.getfield 80, 3) := by decide +kernel
theorem dX10_figures_93 : decode cX10_figures 93 = .ok (.iload_n 3, 1) := by decide +kernel
theorem dX10_figures_94 : decode cX10_figures 94 = .ok (.if_icmp .eq 25, 3) := by decide +kernel
theorem dX10_figures_97 : decode cX10_figures 97 = .ok (.aload_n 0, 1) := by decide +kernel
theorem dX10_figures_98 : decode cX10_figures 98 = .ok (.getfield 80, 3) := by decide +kernel
theorem dX10_figures_101 : decode cX10_figures 101 = .ok (.iload_n 3, 1) := by decide +kernel
theorem dX10_figures_102 : decode cX10_figures 102 = .ok (.isub, 1) := by decide +kernel
theorem dX10_figures_103 : decode cX10_figures 103 = .ok (.iconst 3, 1) := by decide +kernel
theorem dX10_figures_104 : decode cX10_figures 104 = .ok (.if_icmp .gt 15, 3) := by decide +kernel
theorem dX10_figures_107 : decode cX10_figures 107 = .ok (.iload 4, 2) := by decide +kernel
theorem dX10_figures_109 : decode cX10_figures 109 = .ok (.iload_n 1, 1) := by decide +kernel
theorem dX10_figures_110 : decode cX10_figures 110 = .ok (.if_icmp .lt 9, 3) := by decide +kernel
theorem dX10_figures_113 : decode cX10_figures 113 = .ok (.iload 4, 2) := by decide +kernel
theorem dX10_figures_115 : decode cX10_figures 115 = .ok (.iload_n 2, 1) := by decide +kernel
theorem dX10_figures_116 : decode cX10_figures 116 = .ok (.if_icmp .le 8, 3) := by decide +kernel
theorem dX10_figures_119 : decode cX10_figures 119 = .ok (.aload_n 0, 1) := by decide +kernel
theorem dX10_figures_120 : decode cX10_figures 120 = .ok (.iload_n 3, 1) := by decide +kernel
theorem dX10_figures_121 : decode cX10_figures 121 = .ok (.invokevirtual 106, 3) := by decide +kernel
theorem dX10_figures_124 : decode cX10_figures 124 = .ok (.iload 4, 2) := by decide +kernel
theorem dX10_figures_126 : decode cX10_figures 126 = .ok (.ireturn, 1) := by decide +kernel
theorem dX10_after_0 : decode cX10_after 0 = .ok (.aload_n 0, 1) := by decide +kernel
theorem dX10_after_1 : decode cX10_after 1 = .ok (.getfield 25, 3) := by decide +kernel
theorem dX10_after_4 : decode cX10_after 4 = .ok (.iconst (-1), 1) := by decide +kernel
theorem dX10_after_5 : decode cX10_after 5 = .ok (.if_icmp .ne 19, 3) := by decide +kernel
theorem dX10_after_8 : decode cX10_after 8 = .ok (.aload_n 0, 1) := by decide +kernel
theorem dX10_after_9 : decode cX10_after 9 = .ok (.aload_n 1, 1) := by decide +kernel
theorem dX10_after_10 : decode cX10_after 10 = .ok (.invokevirtual 110, 3) := by decide +kernel
theorem dX10_after_13 : decode cX10_after 13 = .ok (.ifCond .ne 11, 3) := by decide +kernel
theorem dX10_after_16 : decode cX10_after 16 = .ok (.aload_n 0, 1) := by decide +kernel
theorem dX10_after_17 : decode cX10_after 17 = .ok (.aload_n 0, 1) := by decide +kernel
theorem dX10_after_18 : decode cX10_after 18 = .ok (.getfield 80, 3) := by decide +kernel
theorem dX10_after_21 : decode cX10_after 21 = .ok (.invokevirtual 106, 3) := by decide +kernel
theorem dX10_after_24 : decode cX10_after 24 = .ok (.aload_n 0, 1) := by decide +kernel
theorem dX10_after_25 : decode cX10_after 25 = .ok (.iload_n 2, 1) := by decide +kernel
theorem dX10_after_26 : decode cX10_after 26 = .ok (.iload_n 3, 1) := by decide +kernel
theorem dX10_after_27 : decode cX10_after 27 = .ok (.invokevirtual 114, 3) := by decide +kernel
theorem dX10_after_30 : decode cX10_after 30 = .ok (.ireturn, 1) := by decide +kernel
theorem dX10_marks_0 : decode cX10_marks 0 = .ok (.aload_n 0, 1) := by decide +kernel
theorem dX10_marks_1 : decode cX10_marks 1 = .ok (.invokevirtual 103, 3) := by decide +kernel
theorem dX10_marks_4 : decode cX10_marks 4 = .ok (.istore_n 1, 1) := by decide +kernel
theorem dX10_marks_5 : decode cX10_marks 5 = .ok (.iconst 0, 1) := by decide +kernel
theorem dX10_marks_6 : decode cX10_marks 6 = .ok (.istore_n 2, 1) := by decide +kernel
theorem dX10_marks_7 : decode cX10_marks 7 = .ok (.iconst 1, 1) := by decide +kernel
theorem dX10_marks_8 : decode cX10_marks 8 = .ok (.istore_n 3, 1) := by decide +kernel
theorem dX10_marks_9 : decode cX10_marks 9 = .ok (.aload_n 0, 1) := by decide +kernel
theorem dX10_marks_10 : decode cX10_marks 10 = .ok (.getfield 80, 3) := by decide +kernel
theorem dX10_marks_13 : decode cX10_marks 13 = .ok (.aload_n 0, 1) := by decide +kernel
theorem dX10_marks_14 : decode cX10_marks 14 = .ok (.getfield 83, 3) := by decide +kernel
theorem dX10_marks_17 : decode cX10_marks 17 = .ok (.if_icmp .ge 84, 3) := by decide +kernel
theorem dX10_marks_20 : decode cX10_marks 20 = .ok (.aload_n 0, 1) := by decide +kernel
theorem dX10_marks_21 : decode cX10_marks 21 = .ok (.aload_n 0, 1) := by decide +kernel
theorem dX10_marks_22 : decode cX10_marks 22 = .ok (.getfield 80, 3) := by decide +kernel
theorem dX10_marks_25 : decode cX10_marks 25 = .ok (.invokevirtual 86, 3) := by decide +kernel
theorem dX10_marks_28 : decode cX10_marks 28 = .ok (.bipush 97, 2) := by decide +kernel
theorem dX10_marks_30 : decode cX10_marks 30 = .ok (.bipush 122, 2) := by decide +kernel
theorem dX10_marks_32 : decode cX10_marks 32 = .ok (.invokestatic 66, 3) := by decide +kernel
theorem dX10_marks_35 : decode cX10_marks 35 = .ok (.ifCond .eq 66, 3) := by decide +kernel
theorem dX10_marks_38 : decode cX10_marks 38 = .ok (.aload_n 0, 1) := by decide +kernel
theorem dX10_marks_39 : decode cX10_marks 39 = .ok (.aload_n 0, 1) := by decide +kernel
theorem dX10_marks_40 : decode cX10_marks 40 = .ok (.getfield 80, 3) := by decide +kernel
theorem dX10_marks_43 : decode cX10_marks 43 = .ok (.invokevirtual 86, 3) := by decide +kernel
theorem dX10_marks_46 : decode cX10_marks 46 = .ok (.bipush 97, 2) := by decide +kernel
theorem dX10_marks_48 : decode cX10_marks 48 = .ok (.isub, 1) := by decide +kernel
theorem dX10_marks_49 : decode cX10_marks 49 = .ok (.istore 4, 2) := by decide +kernel
theorem dX10_marks_51 : decode cX10_marks 51 = .ok (.iload_n 3, 1) := by decide +kernel
theorem dX10_marks_52 : decode cX10_marks 52 = .ok (.ifCond .eq 23, 3) := by decide +kernel
theorem dX10_marks_55 : decode cX10_marks 55 = .ok (.iload 4, 2) := by decide +kernel
theorem dX10_marks_57 : decode cX10_marks 57 = .ok (.bipush 6, 2) := by decide +kernel
theorem dX10_marks_59 : decode cX10_marks 59 = .ok (.if_icmp .ge 16, 3) := by decide +kernel
theorem dX10_marks_62 : decode cX10_marks 62 = .ok (.iload_n 2, 1) := by decide +kernel
theorem dX10_marks_63 : decode cX10_marks 63 = .ok (.iload 4, 2) := by decide +kernel
theorem dX10_marks_65 : decode cX10_marks 65 = .ok (.invokestatic 117, 3) := by decide +kernel
theorem dX10_marks_68 : decode cX10_marks 68 = .ok (.ifCond .ne 7, 3) := by decide +kernel
theorem dX10_marks_71 : decode cX10_marks 71 = .ok (.iconst 1, 1) := by decide +kernel
theorem dX10_marks_72 : decode cX10_marks 72 = .ok (.goto 4, 3) := by decide +kernel
theorem dX10_marks_75 : decode cX10_marks 75 = .ok (.iconst 0, 1) := by decide +kernel
theorem dX10_marks_76 : decode cX10_marks 76 = .ok (.istore_n 3, 1) := by decide +kernel
theorem dX10_marks_77 : decode cX10_marks 77 = .ok (.iload_n 3, 1) := by decide +kernel
theorem dX10_marks_78 : decode cX10_marks 78 = .ok (.ifCond .eq 10, 3) := by decide +kernel
theorem dX10_marks_81 : decode cX10_marks 81 = .ok (.iload_n 2, 1) := by decide +kernel
theorem dX10_marks_82 : decode cX10_marks 82 = .ok (.iconst 1, 1) := by decide +kernel
theorem dX10_marks_83 : decode cX10_marks 83 = .ok (.iload 4, 2) := by decide +kernel
theorem dX10_marks_85 : decode cX10_marks 85 = .ok (.ishl, 1) := by decide +kernel
theorem dX10_marks_86 : decode cX10_marks 86 = .ok (.ior, 1) := by decide +kernel
theorem dX10_marks_87 : decode cX10_marks 87 = .ok (.istore_n 2, 1) := by decide +kernel
theorem dX10_marks_88 : decode cX10_marks 88 = .ok (.aload_n 0, 1) := by decide +kernel
theorem dX10_marks_89 : decode cX10_marks 89 = .ok (.dup, 1) := by decide +kernel
theorem dX10_marks_90 : decode cX10_marks 90 = .ok (.getfield 80, 3) := by decide +kernel
theorem dX10_marks_93 : decode cX10_marks 93 = .ok (.iconst 1, 1) := by decide +kernel
theorem dX10_marks_94 : decode cX10_marks 94 = .ok (.iadd, 1) := by decide +kernel
theorem dX10_marks_95 : decode cX10_marks 95 = .ok (.putfield 80, 3) := by decide +kernel
theorem dX10_marks_98 : decode cX10_marks 98 = .ok (.goto (-89), 3) := by decide +kernel
theorem dX10_marks_101 : decode cX10_marks 101 = .ok (.iload_n 3, 1) := by decide +kernel
theorem dX10_marks_102 : decode cX10_marks 102 = .ok (.ifCond .eq 11, 3) := by decide +kernel
theorem dX10_marks_105 : decode cX10_marks 105 = .ok (.aload_n 0, 1) := by decide +kernel
theorem dX10_marks_106 : decode cX10_marks 106 = .ok (.getfield 80, 3) := by decide +kernel
theorem dX10_marks_109 : decode cX10_marks 109 = .ok (.iload_n 1, 1) := by decide +kernel
theorem dX10_marks_110 : decode cX10_marks 110 = .ok (.if_icmp .ne 8, 3) := by decide +kernel
theorem dX10_marks_113 : decode cX10_marks 113 = .ok (.aload_n 0, 1) := by decide +kernel
theorem dX10_marks_114 : decode cX10_marks 114 = .ok (.iload_n 1, 1) := by decide +kernel
theorem dX10_marks_115 : decode cX10_marks 115 = .ok (.invokevirtual 106, 3) := by decide +kernel
theorem dX10_marks_118 : decode cX10_marks 118 = .ok (.iload_n 2, 1) := by decide +kernel
theorem dX10_marks_119 : decode cX10_marks 119 = .ok (.ireturn, 1) := by decide +kernel
theorem dX10_thingLine_0 : decode cX10_thingLine 0 = .ok (.aload_n 0, 1) := by decide +kernel
theorem dX10_thingLine_1 : decode cX10_thingLine 1 = .ok (.getfield 7, 3) := by decide +kernel
theorem dX10_thingLine_4 : decode cX10_thingLine 4 = .ok (.iconst 3, 1) := by decide +kernel
theorem dX10_thingLine_5 : decode cX10_thingLine 5 = .ok (.iaload, 1) := by decide +kernel
theorem dX10_thingLine_6 : decode cX10_thingLine 6 = .ok (.bipush 9, 2) := by decide +kernel
theorem dX10_thingLine_8 : decode cX10_thingLine 8 = .ok (.if_icmp .ne 8, 3) := by decide +kernel
theorem dX10_thingLine_11 : decode cX10_thingLine 11 = .ok (.aload_n 0, 1) := by decide +kernel
theorem dX10_thingLine_12 : decode cX10_thingLine 12 = .ok (.iload_n 1, 1) := by decide +kernel
theorem dX10_thingLine_13 : decode cX10_thingLine 13 = .ok (.invokevirtual 106, 3) := by decide +kernel
theorem dX10_thingLine_16 : decode cX10_thingLine 16 = .ok (.aload_n 0, 1) := by decide +kernel
theorem dX10_thingLine_17 : decode cX10_thingLine 17 = .ok (.getfield 25, 3) := by decide +kernel
theorem dX10_thingLine_20 : decode cX10_thingLine 20 = .ok (.iconst (-1), 1) := by decide +kernel
theorem dX10_thingLine_21 : decode cX10_thingLine 21 = .ok (.if_icmp .ne 20, 3) := by decide +kernel
theorem dX10_thingLine_24 : decode cX10_thingLine 24 = .ok (.aload_n 0, 1) := by decide +kernel
theorem dX10_thingLine_25 : decode cX10_thingLine 25 = .ok (.ldc 121, 2) := by decide +kernel
theorem dX10_thingLine_27 : decode cX10_thingLine 27 = .ok (.invokevirtual 110, 3) := by decide +kernel
theorem dX10_thingLine_30 : decode cX10_thingLine 30 = .ok (.ifCond .ne 11, 3) := by decide +kernel
theorem dX10_thingLine_33 : decode cX10_thingLine 33 = .ok (.aload_n 0, 1) := by decide +kernel
theorem dX10_thingLine_34 : decode cX10_thingLine 34 = .ok (.aload_n 0, 1) := by decide +kernel
theorem dX10_thingLine_35 : decode cX10_thingLine 35 = .ok (.getfield 80, 3) := by decide +kernel
theorem dX10_thingLine_38 : decode cX10_thingLine 38 = .ok (.invokevirtual 106, 3) := by decide +kernel
theorem dX10_thingLine_41 : decode cX10_thingLine 41 = .ok (.aload_n 0, 1) := by decide +kernel
theorem dX10_thingLine_42 : decode cX10_thingLine 42 = .ok (.invokevirtual 103, 3) := by decide +kernel
theorem dX10_thingLine_45 : decode cX10_thingLine 45 = .ok (.istore_n 2, 1) := by decide +kernel
theorem dX10_thingLine_46 : decode cX10_thingLine 46 = .ok (.aload_n 0, 1) := by decide +kernel
theorem dX10_thingLine_47 : decode cX10_thingLine 47 = .ok (.iconst 0, 1) := by decide +kernel
theorem dX10_thingLine_48 : decode cX10_thingLine 48 = .ok (.bipush 19, 2) := by decide +kernel
theorem dX10_thingLine_50 : decode cX10_thingLine 50 = .ok (.invokevirtual 114, 3) := by decide +kernel
theorem dX10_thingLine_53 : decode cX10_thingLine 53 = .ok (.istore_n 3, 1) := by decide +kernel
theorem dX10_thingLine_54 : decode cX10_thingLine 54 = .ok (.aload_n 0, 1) := by decide +kernel
theorem dX10_thingLine_55 : decode cX10_thingLine 55 = .ok (.getfield 25, 3) := by decide +kernel
theorem dX10_thingLine_58 : decode cX10_thingLine 58 = .ok (.iconst (-1), 1) := by decide +kernel
theorem dX10_thingLine_59 : decode cX10_thingLine 59 = .ok (.if_icmp .ne 17, 3) := by decide +kernel
theorem dX10_thingLine_62 : decode cX10_thingLine 62 = .ok (.aload_n 0, 1) := by decide +kernel
theorem dX10_thingLine_63 : decode cX10_thingLine 63 = .ok (.iload_n 3, 1) := by decide +kernel
theorem dX10_thingLine_64 : decode cX10_thingLine 64 = .ok (.invokevirtual 122, 3) := by decide +kernel
theorem dX10_thingLine_67 : decode cX10_thingLine 67 = .ok (.iconst (-1), 1) := by decide +kernel
theorem dX10_thingLine_68 : decode cX10_thingLine 68 = .ok (.if_icmp .eq 8, 3) := by decide +kernel
theorem dX10_thingLine_71 : decode cX10_thingLine 71 = .ok (.aload_n 0, 1) := by decide +kernel
theorem dX10_thingLine_72 : decode cX10_thingLine 72 = .ok (.iload_n 2, 1) := by decide +kernel
theorem dX10_thingLine_73 : decode cX10_thingLine 73 = .ok (.invokevirtual 106, 3) := by decide +kernel
theorem dX10_thingLine_76 : decode cX10_thingLine 76 = .ok (.aload_n 0, 1) := by decide +kernel
theorem dX10_thingLine_77 : decode cX10_thingLine 77 = .ok (.ldc 125, 2) := by decide +kernel
theorem dX10_thingLine_79 : decode cX10_thingLine 79 = .ok (.iconst 0, 1) := by decide +kernel
theorem dX10_thingLine_80 : decode cX10_thingLine 80 = .ok (.bipush 99, 2) := by decide +kernel
theorem dX10_thingLine_82 : decode cX10_thingLine 82 = .ok (.invokevirtual 127, 3) := by decide +kernel
theorem dX10_thingLine_85 : decode cX10_thingLine 85 = .ok (.istore 4, 2) := by decide +kernel
theorem dX10_thingLine_87 : decode cX10_thingLine 87 = .ok (.aload_n 0, 1) := by decide +kernel
theorem dX10_thingLine_88 : decode cX10_thingLine 88 = .ok (.ldc 131, 2) := by decide +kernel
theorem dX10_thingLine_90 : decode cX10_thingLine 90 = .ok (.iconst 1, 1) := by decide +kernel
theorem dX10_thingLine_91 : decode cX10_thingLine 91 = .ok (.iconst 3, 1) := by decide +kernel
theorem dX10_thingLine_92 : decode cX10_thingLine 92 = .ok (.invokevirtual 127, 3) := by decide +kernel
theorem dX10_thingLine_95 : decode cX10_thingLine 95 = .ok (.istore 5, 2) := by decide +kernel
theorem dX10_thingLine_97 : decode cX10_thingLine 97 = .ok (.aload_n 0, 1) := by decide +kernel
theorem dX10_thingLine_98 : decode cX10_thingLine 98 = .ok (.getfield 25, 3) := by decide +kernel
theorem dX10_thingLine_101 : decode cX10_thingLine 101 = .ok (.iconst (-1), 1) := by decide +kernel
theorem dX10_thingLine_102 : decode cX10_thingLine 102 = .ok (.if_icmp .eq 4, 3) := by decide +kernel
theorem dX10_thingLine_105 : decode cX10_thingLine 105 = .ok (.return_, 1) := by decide +kernel
theorem dX10_thingLine_106 : decode cX10_thingLine 106 = .ok (.bipush 12, 2) := by decide +kernel
theorem dX10_thingLine_108 : decode cX10_thingLine 108 = .ok (.iconst 5, 1) := by decide +kernel
theorem dX10_thingLine_109 : decode cX10_thingLine 109 = .ok (.aload_n 0, 1) := by decide +kernel
theorem dX10_thingLine_110 : decode cX10_thingLine 110 = .ok (.getfield 7, 3) := by decide +kernel
theorem dX10_thingLine_113 : decode cX10_thingLine 113 = .ok (.iconst 3, 1) := by decide +kernel
theorem dX10_thingLine_114 : decode cX10_thingLine 114 = .ok (.iaload, 1) := by decide +kernel
theorem dX10_thingLine_115 : decode cX10_thingLine 115 = .ok (.imul, 1) := by decide +kernel
theorem dX10_thingLine_116 : decode cX10_thingLine 116 = .ok (.iadd, 1) := by decide +kernel
theorem dX10_thingLine_117 : decode cX10_thingLine 117 = .ok (.istore 6, 2) := by decide +kernel
theorem dX10_thingLine_119 : decode cX10_thingLine 119 = .ok (.aload_n 0, 1) := by decide +kernel
theorem dX10_thingLine_120 : decode cX10_thingLine 120 = .ok (.getfield 7, 3) := by decide +kernel
theorem dX10_thingLine_123 : decode cX10_thingLine 123 = .ok (.iload 6, 2) := by decide +kernel
theorem dX10_thingLine_125 : decode cX10_thingLine 125 = .ok (.iconst 0, 1) := by decide +kernel
theorem dX10_thingLine_126 : decode cX10_thingLine 126 = .ok (.iadd, 1) := by decide +kernel
theorem dX10_thingLine_127 : decode cX10_thingLine 127 = .ok (.iload_n 3, 1) := by decide +kernel
theorem dX10_thingLine_128 : decode cX10_thingLine 128 = .ok (.iastore, 1) := by decide +kernel
theorem dX10_thingLine_129 : decode cX10_thingLine 129 = .ok (.aload_n 0, 1) := by decide +kernel
theorem dX10_thingLine_130 : decode cX10_thingLine 130 = .ok (.getfield 7, 3) := by decide +kernel
theorem dX10_thingLine_133 : decode cX10_thingLine 133 = .ok (.iload 6, 2) := by decide +kernel
theorem dX10_thingLine_135 : decode cX10_thingLine 135 = .ok (.iconst 1, 1) := by decide +kernel
theorem dX10_thingLine_136 : decode cX10_thingLine 136 = .ok (.iadd, 1) := by decide +kernel
theorem dX10_thingLine_137 : decode cX10_thingLine 137 = .ok (.iload 4, 2) := by decide +kernel
theorem dX10_thingLine_139 : decode cX10_thingLine 139 = .ok (.iastore, 1) := by decide +kernel
theorem dX10_thingLine_140 : decode cX10_thingLine 140 = .ok (.aload_n 0, 1) := by decide +kernel
theorem dX10_thingLine_141 : decode cX10_thingLine 141 = .ok (.getfield 7, 3) := by decide +kernel
theorem dX10_thingLine_144 : decode cX10_thingLine 144 = .ok (.iload 6, 2) := by decide +kernel
theorem dX10_thingLine_146 : decode cX10_thingLine 146 = .ok (.iconst 2, 1) := by decide +kernel
theorem dX10_thingLine_147 : decode cX10_thingLine 147 = .ok (.iadd, 1) := by decide +kernel
theorem dX10_thingLine_148 : decode cX10_thingLine 148 = .ok (.iload 5, 2) := by decide +kernel
theorem dX10_thingLine_150 : decode cX10_thingLine 150 = .ok (.iastore, 1) := by decide +kernel
theorem dX10_thingLine_151 : decode cX10_thingLine 151 = .ok (.aload_n 0, 1) := by decide +kernel
theorem dX10_thingLine_152 : decode cX10_thingLine 152 = .ok (.getfield 7, 3) := by decide +kernel
theorem dX10_thingLine_155 : decode cX10_thingLine 155 = .ok (.iload 6, 2) := by decide +kernel
theorem dX10_thingLine_157 : decode cX10_thingLine 157 = .ok (.iconst 3, 1) := by decide +kernel
theorem dX10_thingLine_158 : decode cX10_thingLine 158 = .ok (.iadd, 1) := by decide +kernel
theorem dX10_thingLine_159 : decode cX10_thingLine 159 = .ok (.iconst 1, 1) := by decide +kernel
theorem dX10_thingLine_160 : decode cX10_thingLine 160 = .ok (.iastore, 1) := by decide +kernel
theorem dX10_thingLine_161 : decode cX10_thingLine 161 = .ok (.aload_n 0, 1) := by decide +kernel
theorem dX10_thingLine_162 : decode cX10_thingLine 162 = .ok (.getfield 7, 3) := by decide +kernel
theorem dX10_thingLine_165 : decode cX10_thingLine 165 = .ok (.iload 6, 2) := by decide +kernel
theorem dX10_thingLine_167 : decode cX10_thingLine 167 = .ok (.iconst 4, 1) := by decide +kernel
theorem dX10_thingLine_168 : decode cX10_thingLine 168 = .ok (.iadd, 1) := by decide +kernel
theorem dX10_thingLine_169 : decode cX10_thingLine 169 = .ok (.iconst 0, 1) := by decide +kernel
theorem dX10_thingLine_170 : decode cX10_thingLine 170 = .ok (.iastore, 1) := by decide +kernel
theorem dX10_thingLine_171 : decode cX10_thingLine 171 = .ok (.aload_n 0, 1) := by decide +kernel
theorem dX10_thingLine_172 : decode cX10_thingLine 172 = .ok (.getfield 7, 3) := by decide +kernel
theorem dX10_thingLine_175 : decode cX10_thingLine 175 = .ok (.iconst 3, 1) := by decide +kernel
theorem dX10_thingLine_176 : decode cX10_thingLine 176 = .ok (.dup2, 1) := by decide +kernel
theorem dX10_thingLine_177 : decode cX10_thingLine 177 = .ok (.iaload, 1) := by decide +kernel
theorem dX10_thingLine_178 : decode cX10_thingLine 178 = .ok (.iconst 1, 1) := by decide +kernel
theorem dX10_thingLine_179 : decode cX10_thingLine 179 = .ok (.iadd, 1) := by decide +kernel
theorem dX10_thingLine_180 : decode cX10_thingLine 180 = .ok (.iastore, 1) := by decide +kernel
theorem dX10_thingLine_181 : decode cX10_thingLine 181 = .ok (.return_, 1) := by decide +kernel
theorem dX10_visitorLine_0 : decode cX10_visitorLine 0 = .ok (.aload_n 0, 1) := by decide +kernel
theorem dX10_visitorLine_1 : decode cX10_visitorLine 1 = .ok (.getfield 7, 3) := by decide +kernel
theorem dX10_visitorLine_4 : decode cX10_visitorLine 4 = .ok (.iconst 4, 1) := by decide +kernel
theorem dX10_visitorLine_5 : decode cX10_visitorLine 5 = .ok (.iaload, 1) := by decide +kernel
theorem dX10_visitorLine_6 : decode cX10_visitorLine 6 = .ok (.bipush 10, 2) := by decide +kernel
theorem dX10_visitorLine_8 : decode cX10_visitorLine 8 = .ok (.if_icmp .ne 8, 3) := by decide +kernel
theorem dX10_visitorLine_11 : decode cX10_visitorLine 11 = .ok (.aload_n 0, 1) := by decide +kernel
theorem dX10_visitorLine_12 : decode cX10_visitorLine 12 = .ok (.iload_n 1, 1) := by decide +kernel
theorem dX10_visitorLine_13 : decode cX10_visitorLine 13 = .ok (.invokevirtual 106, 3) := by decide +kernel
theorem dX10_visitorLine_16 : decode cX10_visitorLine 16 = .ok (.aload_n 0, 1) := by decide +kernel
theorem dX10_visitorLine_17 : decode cX10_visitorLine 17 = .ok (.ldc 132, 2) := by decide +kernel
theorem dX10_visitorLine_19 : decode cX10_visitorLine 19 = .ok (.iconst 0, 1) := by decide +kernel
theorem dX10_visitorLine_20 : decode cX10_visitorLine 20 = .ok (.bipush 99, 2) := by decide +kernel
theorem dX10_visitorLine_22 : decode cX10_visitorLine 22 = .ok (.invokevirtual 127, 3) := by decide +kernel
theorem dX10_visitorLine_25 : decode cX10_visitorLine 25 = .ok (.istore_n 2, 1) := by decide +kernel
theorem dX10_visitorLine_26 : decode cX10_visitorLine 26 = .ok (.aload_n 0, 1) := by decide +kernel
theorem dX10_visitorLine_27 : decode cX10_visitorLine 27 = .ok (.ldc 134, 2) := by decide +kernel
theorem dX10_visitorLine_29 : decode cX10_visitorLine 29 = .ok (.iconst 0, 1) := by decide +kernel
theorem dX10_visitorLine_30 : decode cX10_visitorLine 30 = .ok (.bipush 9, 2) := by decide +kernel
theorem dX10_visitorLine_32 : decode cX10_visitorLine 32 = .ok (.invokevirtual 127, 3) := by decide +kernel
theorem dX10_visitorLine_35 : decode cX10_visitorLine 35 = .ok (.istore_n 3, 1) := by decide +kernel
theorem dX10_visitorLine_36 : decode cX10_visitorLine 36 = .ok (.aload_n 0, 1) := by decide +kernel
theorem dX10_visitorLine_37 : decode cX10_visitorLine 37 = .ok (.ldc 136, 2) := by decide +kernel
theorem dX10_visitorLine_39 : decode cX10_visitorLine 39 = .ok (.iconst 0, 1) := by decide +kernel
theorem dX10_visitorLine_40 : decode cX10_visitorLine 40 = .ok (.bipush 9, 2) := by decide +kernel
theorem dX10_visitorLine_42 : decode cX10_visitorLine 42 = .ok (.invokevirtual 127, 3) := by decide +kernel
theorem dX10_visitorLine_45 : decode cX10_visitorLine 45 = .ok (.istore 4, 2) := by decide +kernel
theorem dX10_visitorLine_47 : decode cX10_visitorLine 47 = .ok (.aload_n 0, 1) := by decide +kernel
theorem dX10_visitorLine_48 : decode cX10_visitorLine 48 = .ok (.ldc 138, 2) := by decide +kernel
theorem dX10_visitorLine_50 : decode cX10_visitorLine 50 = .ok (.iconst 0, 1) := by decide +kernel
theorem dX10_visitorLine_51 : decode cX10_visitorLine 51 = .ok (.bipush 100, 2) := by decide +kernel
theorem dX10_visitorLine_53 : decode cX10_visitorLine 53 = .ok (.invokevirtual 127, 3) := by decide +kernel
theorem dX10_visitorLine_56 : decode cX10_visitorLine 56 = .ok (.istore 5, 2) := by decide +kernel
theorem dX10_visitorLine_58 : decode cX10_visitorLine 58 = .ok (.aload_n 0, 1) := by decide +kernel
theorem dX10_visitorLine_59 : decode cX10_visitorLine 59 = .ok (.getfield 25, 3) := by decide +kernel
theorem dX10_visitorLine_62 : decode cX10_visitorLine 62 = .ok (.iconst (-1), 1) := by decide +kernel
theorem dX10_visitorLine_63 : decode cX10_visitorLine 63 = .ok (.if_icmp .ne 19, 3) := by decide +kernel
theorem dX10_visitorLine_66 : decode cX10_visitorLine 66 = .ok (.aload_n 0, 1) := by decide +kernel
theorem dX10_visitorLine_67 : decode cX10_visitorLine 67 = .ok (.ldc 140, 2) := by decide +kernel
theorem dX10_visitorLine_69 : decode cX10_visitorLine 69 = .ok (.invokevirtual 110, 3) := by decide +kernel
theorem dX10_visitorLine_72 : decode cX10_visitorLine 72 = .ok (.ifCond .eq 10, 3) := by decide +kernel
theorem dX10_visitorLine_75 : decode cX10_visitorLine 75 = .ok (.aload_n 0, 1) := by decide +kernel
theorem dX10_visitorLine_76 : decode cX10_visitorLine 76 = .ok (.invokevirtual 142, 3) := by decide +kernel
theorem dX10_visitorLine_79 : decode cX10_visitorLine 79 = .ok (.goto 4, 3) := by decide +kernel
theorem dX10_visitorLine_82 : decode cX10_visitorLine 82 = .ok (.iconst 0, 1) := by decide +kernel
theorem dX10_visitorLine_83 : decode cX10_visitorLine 83 = .ok (.istore 6, 2) := by decide +kernel
theorem dX10_visitorLine_85 : decode cX10_visitorLine 85 = .ok (.aload_n 0, 1) := by decide +kernel
theorem dX10_visitorLine_86 : decode cX10_visitorLine 86 = .ok (.getfield 25, 3) := by decide +kernel
theorem dX10_visitorLine_89 : decode cX10_visitorLine 89 = .ok (.iconst (-1), 1) := by decide +kernel
theorem dX10_visitorLine_90 : decode cX10_visitorLine 90 = .ok (.if_icmp .eq 4, 3) := by decide +kernel
theorem dX10_visitorLine_93 : decode cX10_visitorLine 93 = .ok (.return_, 1) := by decide +kernel
theorem dX10_visitorLine_94 : decode cX10_visitorLine 94 = .ok (.bipush 57, 2) := by decide +kernel
theorem dX10_visitorLine_96 : decode cX10_visitorLine 96 = .ok (.iconst 5, 1) := by decide +kernel
theorem dX10_visitorLine_97 : decode cX10_visitorLine 97 = .ok (.aload_n 0, 1) := by decide +kernel
theorem dX10_visitorLine_98 : decode cX10_visitorLine 98 = .ok (.getfield 7, 3) := by decide +kernel
theorem dX10_visitorLine_101 : decode cX10_visitorLine 101 = .ok (.iconst 4, 1) := by decide +kernel
theorem dX10_visitorLine_102 : decode cX10_visitorLine 102 = .ok (.iaload, 1) := by decide +kernel
theorem dX10_visitorLine_103 : decode cX10_visitorLine 103 = .ok (.imul, 1) := by decide +kernel
theorem dX10_visitorLine_104 : decode cX10_visitorLine 104 = .ok (.iadd, 1) := by decide +kernel
theorem dX10_visitorLine_105 : decode cX10_visitorLine 105 = .ok (.istore 7, 2) := by decide +kernel
theorem dX10_visitorLine_107 : decode cX10_visitorLine 107 = .ok (.aload_n 0, 1) := by decide +kernel
theorem dX10_visitorLine_108 : decode cX10_visitorLine 108 = .ok (.getfield 7, 3) := by decide +kernel
theorem dX10_visitorLine_111 : decode cX10_visitorLine 111 = .ok (.iload 7, 2) := by decide +kernel
theorem dX10_visitorLine_113 : decode cX10_visitorLine 113 = .ok (.iconst 0, 1) := by decide +kernel
theorem dX10_visitorLine_114 : decode cX10_visitorLine 114 = .ok (.iadd, 1) := by decide +kernel
theorem dX10_visitorLine_115 : decode cX10_visitorLine 115 = .ok (.iload_n 2, 1) := by decide +kernel
theorem dX10_visitorLine_116 : decode cX10_visitorLine 116 = .ok (.iastore, 1) := by decide +kernel
theorem dX10_visitorLine_117 : decode cX10_visitorLine 117 = .ok (.aload_n 0, 1) := by decide +kernel
theorem dX10_visitorLine_118 : decode cX10_visitorLine 118 = .ok (.getfield 7, 3) := by decide +kernel
theorem dX10_visitorLine_121 : decode cX10_visitorLine 121 = .ok (.iload 7, 2) := by decide +kernel
theorem dX10_visitorLine_123 : decode cX10_visitorLine 123 = .ok (.iconst 1, 1) := by decide +kernel
theorem dX10_visitorLine_124 : decode cX10_visitorLine 124 = .ok (.iadd, 1) := by decide +kernel
theorem dX10_visitorLine_125 : decode cX10_visitorLine 125 = .ok (.iload_n 3, 1) := by decide +kernel
theorem dX10_visitorLine_126 : decode cX10_visitorLine 126 = .ok (.iastore, 1) := by decide +kernel
theorem dX10_visitorLine_127 : decode cX10_visitorLine 127 = .ok (.aload_n 0, 1) := by decide +kernel
theorem dX10_visitorLine_128 : decode cX10_visitorLine 128 = .ok (.getfield 7, 3) := by decide +kernel
theorem dX10_visitorLine_131 : decode cX10_visitorLine 131 = .ok (.iload 7, 2) := by decide +kernel
theorem dX10_visitorLine_133 : decode cX10_visitorLine 133 = .ok (.iconst 2, 1) := by decide +kernel
theorem dX10_visitorLine_134 : decode cX10_visitorLine 134 = .ok (.iadd, 1) := by decide +kernel
theorem dX10_visitorLine_135 : decode cX10_visitorLine 135 = .ok (.iload 4, 2) := by decide +kernel
theorem dX10_visitorLine_137 : decode cX10_visitorLine 137 = .ok (.iastore, 1) := by decide +kernel
theorem dX10_visitorLine_138 : decode cX10_visitorLine 138 = .ok (.aload_n 0, 1) := by decide +kernel
theorem dX10_visitorLine_139 : decode cX10_visitorLine 139 = .ok (.getfield 7, 3) := by decide +kernel
theorem dX10_visitorLine_142 : decode cX10_visitorLine 142 = .ok (.iload 7, 2) := by decide +kernel
theorem dX10_visitorLine_144 : decode cX10_visitorLine 144 = .ok (.iconst 3, 1) := by decide +kernel
theorem dX10_visitorLine_145 : decode cX10_visitorLine 145 = .ok (.iadd, 1) := by decide +kernel
theorem dX10_visitorLine_146 : decode cX10_visitorLine 146 = .ok (.iload 5, 2) := by decide +kernel
theorem dX10_visitorLine_148 : decode cX10_visitorLine 148 = .ok (.iastore, 1) := by decide +kernel
theorem dX10_visitorLine_149 : decode cX10_visitorLine 149 = .ok (.aload_n 0, 1) := by decide +kernel
theorem dX10_visitorLine_150 : decode cX10_visitorLine 150 = .ok (.getfield 7, 3) := by decide +kernel
theorem dX10_visitorLine_153 : decode cX10_visitorLine 153 = .ok (.iload 7, 2) := by decide +kernel
theorem dX10_visitorLine_155 : decode cX10_visitorLine 155 = .ok (.iconst 4, 1) := by decide +kernel
theorem dX10_visitorLine_156 : decode cX10_visitorLine 156 = .ok (.iadd, 1) := by decide +kernel
theorem dX10_visitorLine_157 : decode cX10_visitorLine 157 = .ok (.iload 6, 2) := by decide +kernel
theorem dX10_visitorLine_159 : decode cX10_visitorLine 159 = .ok (.iastore, 1) := by decide +kernel
theorem dX10_visitorLine_160 : decode cX10_visitorLine 160 = .ok (.aload_n 0, 1) := by decide +kernel
theorem dX10_visitorLine_161 : decode cX10_visitorLine 161 = .ok (.getfield 7, 3) := by decide +kernel
theorem dX10_visitorLine_164 : decode cX10_visitorLine 164 = .ok (.iconst 4, 1) := by decide +kernel
theorem dX10_visitorLine_165 : decode cX10_visitorLine 165 = .ok (.dup2, 1) := by decide +kernel
theorem dX10_visitorLine_166 : decode cX10_visitorLine 166 = .ok (.iaload, 1) := by decide +kernel
theorem dX10_visitorLine_167 : decode cX10_visitorLine 167 = .ok (.iconst 1, 1) := by decide +kernel
theorem dX10_visitorLine_168 : decode cX10_visitorLine 168 = .ok (.iadd, 1) := by decide +kernel
theorem dX10_visitorLine_169 : decode cX10_visitorLine 169 = .ok (.iastore, 1) := by decide +kernel
theorem dX10_visitorLine_170 : decode cX10_visitorLine 170 = .ok (.return_, 1) := by decide +kernel
theorem dX10_hallLine_0 : decode cX10_hallLine 0 = .ok (.aload_n 0, 1) := by decide +kernel
theorem dX10_hallLine_1 : decode cX10_hallLine 1 = .ok (.invokevirtual 103, 3) := by decide +kernel
theorem dX10_hallLine_4 : decode cX10_hallLine 4 = .ok (.istore_n 1, 1) := by decide +kernel
theorem dX10_hallLine_5 : decode cX10_hallLine 5 = .ok (.aload_n 0, 1) := by decide +kernel
theorem dX10_hallLine_6 : decode cX10_hallLine 6 = .ok (.ldc 144, 2) := by decide +kernel
theorem dX10_hallLine_8 : decode cX10_hallLine 8 = .ok (.invokevirtual 110, 3) := by decide +kernel
theorem dX10_hallLine_11 : decode cX10_hallLine 11 = .ok (.ifCond .eq 11, 3) := by decide +kernel
theorem dX10_hallLine_14 : decode cX10_hallLine 14 = .ok (.aload_n 0, 1) := by decide +kernel
theorem dX10_hallLine_15 : decode cX10_hallLine 15 = .ok (.iload_n 1, 1) := by decide +kernel
theorem dX10_hallLine_16 : decode cX10_hallLine 16 = .ok (.invokevirtual 146, 3) := by decide +kernel
theorem dX10_hallLine_19 : decode cX10_hallLine 19 = .ok (.goto 111, 3) := by decide +kernel
theorem dX10_hallLine_22 : decode cX10_hallLine 22 = .ok (.aload_n 0, 1) := by decide +kernel
theorem dX10_hallLine_23 : decode cX10_hallLine 23 = .ok (.ldc 149, 2) := by decide +kernel
theorem dX10_hallLine_25 : decode cX10_hallLine 25 = .ok (.invokevirtual 110, 3) := by decide +kernel
theorem dX10_hallLine_28 : decode cX10_hallLine 28 = .ok (.ifCond .eq 11, 3) := by decide +kernel
theorem dX10_hallLine_31 : decode cX10_hallLine 31 = .ok (.aload_n 0, 1) := by decide +kernel
theorem dX10_hallLine_32 : decode cX10_hallLine 32 = .ok (.iload_n 1, 1) := by decide +kernel
theorem dX10_hallLine_33 : decode cX10_hallLine 33 = .ok (.invokevirtual 151, 3) := by decide +kernel
theorem dX10_hallLine_36 : decode cX10_hallLine 36 = .ok (.goto 94, 3) := by decide +kernel
theorem dX10_hallLine_39 : decode cX10_hallLine 39 = .ok (.aload_n 0, 1) := by decide +kernel
theorem dX10_hallLine_40 : decode cX10_hallLine 40 = .ok (.ldc 154, 2) := by decide +kernel
theorem dX10_hallLine_42 : decode cX10_hallLine 42 = .ok (.invokevirtual 110, 3) := by decide +kernel
theorem dX10_hallLine_45 : decode cX10_hallLine 45 = .ok (.ifCond .eq 29, 3) := by decide +kernel
theorem dX10_hallLine_48 : decode cX10_hallLine 48 = .ok (.aload_n 0, 1) := by decide +kernel
theorem dX10_hallLine_49 : decode cX10_hallLine 49 = .ok (.iconst 1, 1) := by decide +kernel
theorem dX10_hallLine_50 : decode cX10_hallLine 50 = .ok (.bipush 9, 2) := by decide +kernel
theorem dX10_hallLine_52 : decode cX10_hallLine 52 = .ok (.invokevirtual 114, 3) := by decide +kernel
theorem dX10_hallLine_55 : decode cX10_hallLine 55 = .ok (.istore_n 2, 1) := by decide +kernel
theorem dX10_hallLine_56 : decode cX10_hallLine 56 = .ok (.aload_n 0, 1) := by decide +kernel
theorem dX10_hallLine_57 : decode cX10_hallLine 57 = .ok (.getfield 25, 3) := by decide +kernel
theorem dX10_hallLine_60 : decode cX10_hallLine 60 = .ok (.iconst (-1), 1) := by decide +kernel
theorem dX10_hallLine_61 : decode cX10_hallLine 61 = .ok (.if_icmp .ne 10, 3) := by decide +kernel
theorem dX10_hallLine_64 : decode cX10_hallLine 64 = .ok (.aload_n 0, 1) := by decide +kernel
theorem dX10_hallLine_65 : decode cX10_hallLine 65 = .ok (.getfield 7, 3) := by decide +kernel
theorem dX10_hallLine_68 : decode cX10_hallLine 68 = .ok (.iconst 5, 1) := by decide +kernel
theorem dX10_hallLine_69 : decode cX10_hallLine 69 = .ok (.iload_n 2, 1) := by decide +kernel
theorem dX10_hallLine_70 : decode cX10_hallLine 70 = .ok (.iastore, 1) := by decide +kernel
theorem dX10_hallLine_71 : decode cX10_hallLine 71 = .ok (.goto 59, 3) := by decide +kernel
theorem dX10_hallLine_74 : decode cX10_hallLine 74 = .ok (.aload_n 0, 1) := by decide +kernel
theorem dX10_hallLine_75 : decode cX10_hallLine 75 = .ok (.ldc 156, 2) := by decide +kernel
theorem dX10_hallLine_77 : decode cX10_hallLine 77 = .ok (.invokevirtual 110, 3) := by decide +kernel
theorem dX10_hallLine_80 : decode cX10_hallLine 80 = .ok (.ifCond .eq 42, 3) := by decide +kernel
theorem dX10_hallLine_83 : decode cX10_hallLine 83 = .ok (.aload_n 0, 1) := by decide +kernel
theorem dX10_hallLine_84 : decode cX10_hallLine 84 = .ok (.iconst 0, 1) := by decide +kernel
theorem dX10_hallLine_85 : decode cX10_hallLine 85 = .ok (.aload_n 0, 1) := by decide +kernel
theorem dX10_hallLine_86 : decode cX10_hallLine 86 = .ok (.getfield 7, 3) := by decide +kernel
theorem dX10_hallLine_89 : decode cX10_hallLine 89 = .ok (.iconst 3, 1) := by decide +kernel
theorem dX10_hallLine_90 : decode cX10_hallLine 90 = .ok (.iaload, 1) := by decide +kernel
theorem dX10_hallLine_91 : decode cX10_hallLine 91 = .ok (.iconst 1, 1) := by decide +kernel
theorem dX10_hallLine_92 : decode cX10_hallLine 92 = .ok (.isub, 1) := by decide +kernel
theorem dX10_hallLine_93 : decode cX10_hallLine 93 = .ok (.invokevirtual 114, 3) := by decide +kernel
theorem dX10_hallLine_96 : decode cX10_hallLine 96 = .ok (.istore_n 2, 1) := by decide +kernel
theorem dX10_hallLine_97 : decode cX10_hallLine 97 = .ok (.aload_n 0, 1) := by decide +kernel
theorem dX10_hallLine_98 : decode cX10_hallLine 98 = .ok (.getfield 25, 3) := by decide +kernel
theorem dX10_hallLine_101 : decode cX10_hallLine 101 = .ok (.iconst (-1), 1) := by decide +kernel
theorem dX10_hallLine_102 : decode cX10_hallLine 102 = .ok (.if_icmp .ne 17, 3) := by decide +kernel
theorem dX10_hallLine_105 : decode cX10_hallLine 105 = .ok (.aload_n 0, 1) := by decide +kernel
theorem dX10_hallLine_106 : decode cX10_hallLine 106 = .ok (.getfield 7, 3) := by decide +kernel
theorem dX10_hallLine_109 : decode cX10_hallLine 109 = .ok (.bipush 12, 2) := by decide +kernel
theorem dX10_hallLine_111 : decode cX10_hallLine 111 = .ok (.iconst 5, 1) := by decide +kernel
theorem dX10_hallLine_112 : decode cX10_hallLine 112 = .ok (.iload_n 2, 1) := by decide +kernel
theorem dX10_hallLine_113 : decode cX10_hallLine 113 = .ok (.imul, 1) := by decide +kernel
theorem dX10_hallLine_114 : decode cX10_hallLine 114 = .ok (.iadd, 1) := by decide +kernel
theorem dX10_hallLine_115 : decode cX10_hallLine 115 = .ok (.iconst 3, 1) := by decide +kernel
theorem dX10_hallLine_116 : decode cX10_hallLine 116 = .ok (.iadd, 1) := by decide +kernel
theorem dX10_hallLine_117 : decode cX10_hallLine 117 = .ok (.iconst 0, 1) := by decide +kernel
theorem dX10_hallLine_118 : decode cX10_hallLine 118 = .ok (.iastore, 1) := by decide +kernel
theorem dX10_hallLine_119 : decode cX10_hallLine 119 = .ok (.goto 11, 3) := by decide +kernel
theorem dX10_hallLine_122 : decode cX10_hallLine 122 = .ok (.aload_n 0, 1) := by decide +kernel
theorem dX10_hallLine_123 : decode cX10_hallLine 123 = .ok (.aload_n 0, 1) := by decide +kernel
theorem dX10_hallLine_124 : decode cX10_hallLine 124 = .ok (.getfield 80, 3) := by decide +kernel
theorem dX10_hallLine_127 : decode cX10_hallLine 127 = .ok (.invokevirtual 106, 3) := by decide +kernel
theorem dX10_hallLine_130 : decode cX10_hallLine 130 = .ok (.return_, 1) := by decide +kernel
theorem dX10_begins_0 : decode cX10_begins 0 = .ok (.aload_n 0, 1) := by decide +kernel
theorem dX10_begins_1 : decode cX10_begins 1 = .ok (.iconst (-1), 1) := by decide +kernel
theorem dX10_begins_2 : decode cX10_begins 2 = .ok (.putfield 25, 3) := by decide +kernel
theorem dX10_begins_5 : decode cX10_begins 5 = .ok (.aload_n 0, 1) := by decide +kernel
theorem dX10_begins_6 : decode cX10_begins 6 = .ok (.iconst (-1), 1) := by decide +kernel
theorem dX10_begins_7 : decode cX10_begins 7 = .ok (.putfield 77, 3) := by decide +kernel
theorem dX10_begins_10 : decode cX10_begins 10 = .ok (.aload_n 0, 1) := by decide +kernel
theorem dX10_begins_11 : decode cX10_begins 11 = .ok (.aload_n 0, 1) := by decide +kernel
theorem dX10_begins_12 : decode cX10_begins 12 = .ok (.getfield 74, 3) := by decide +kernel
theorem dX10_begins_15 : decode cX10_begins 15 = .ok (.putfield 83, 3) := by decide +kernel
theorem dX10_begins_18 : decode cX10_begins 18 = .ok (.aload_n 0, 1) := by decide +kernel
theorem dX10_begins_19 : decode cX10_begins 19 = .ok (.iconst 0, 1) := by decide +kernel
theorem dX10_begins_20 : decode cX10_begins 20 = .ok (.putfield 74, 3) := by decide +kernel
theorem dX10_begins_23 : decode cX10_begins 23 = .ok (.aload_n 0, 1) := by decide +kernel
theorem dX10_begins_24 : decode cX10_begins 24 = .ok (.iconst 0, 1) := by decide +kernel
theorem dX10_begins_25 : decode cX10_begins 25 = .ok (.putfield 80, 3) := by decide +kernel
theorem dX10_begins_28 : decode cX10_begins 28 = .ok (.aload_n 0, 1) := by decide +kernel
theorem dX10_begins_29 : decode cX10_begins 29 = .ok (.iconst 0, 1) := by decide +kernel
theorem dX10_begins_30 : decode cX10_begins 30 = .ok (.putfield 158, 3) := by decide +kernel
theorem dX10_begins_33 : decode cX10_begins 33 = .ok (.return_, 1) := by decide +kernel
theorem dX10_read_0 : decode cX10_read 0 = .ok (.aload_n 0, 1) := by decide +kernel
theorem dX10_read_1 : decode cX10_read 1 = .ok (.invokevirtual 90, 3) := by decide +kernel
theorem dX10_read_4 : decode cX10_read 4 = .ok (.aload_n 0, 1) := by decide +kernel
theorem dX10_read_5 : decode cX10_read 5 = .ok (.getfield 80, 3) := by decide +kernel
theorem dX10_read_8 : decode cX10_read 8 = .ok (.aload_n 0, 1) := by decide +kernel
theorem dX10_read_9 : decode cX10_read 9 = .ok (.getfield 83, 3) := by decide +kernel
theorem dX10_read_12 : decode cX10_read 12 = .ok (.if_icmp .ge 7, 3) := by decide +kernel
theorem dX10_read_15 : decode cX10_read 15 = .ok (.iconst 1, 1) := by decide +kernel
theorem dX10_read_16 : decode cX10_read 16 = .ok (.goto 4, 3) := by decide +kernel
theorem dX10_read_19 : decode cX10_read 19 = .ok (.iconst 0, 1) := by decide +kernel
theorem dX10_read_20 : decode cX10_read 20 = .ok (.istore_n 2, 1) := by decide +kernel
theorem dX10_read_21 : decode cX10_read 21 = .ok (.iconst 0, 1) := by decide +kernel
theorem dX10_read_22 : decode cX10_read 22 = .ok (.istore_n 3, 1) := by decide +kernel
theorem dX10_read_23 : decode cX10_read 23 = .ok (.iload_n 2, 1) := by decide +kernel
theorem dX10_read_24 : decode cX10_read 24 = .ok (.ifCond .eq 120, 3) := by decide +kernel
theorem dX10_read_27 : decode cX10_read 27 = .ok (.aload_n 0, 1) := by decide +kernel
theorem dX10_read_28 : decode cX10_read 28 = .ok (.getfield 25, 3) := by decide +kernel
theorem dX10_read_31 : decode cX10_read 31 = .ok (.iconst (-1), 1) := by decide +kernel
theorem dX10_read_32 : decode cX10_read 32 = .ok (.if_icmp .ne 112, 3) := by decide +kernel
theorem dX10_read_35 : decode cX10_read 35 = .ok (.aload_n 0, 1) := by decide +kernel
theorem dX10_read_36 : decode cX10_read 36 = .ok (.invokevirtual 90, 3) := by decide +kernel
theorem dX10_read_39 : decode cX10_read 39 = .ok (.iload_n 3, 1) := by decide +kernel
theorem dX10_read_40 : decode cX10_read 40 = .ok (.iload_n 1, 1) := by decide +kernel
theorem dX10_read_41 : decode cX10_read 41 = .ok (.ifCond .eq 8, 3) := by decide +kernel
theorem dX10_read_44 : decode cX10_read 44 = .ok (.bipush 12, 2) := by decide +kernel
theorem dX10_read_46 : decode cX10_read 46 = .ok (.goto 5, 3) := by decide +kernel
theorem dX10_read_49 : decode cX10_read 49 = .ok (.bipush 14, 2) := by decide +kernel
theorem dX10_read_51 : decode cX10_read 51 = .ok (.if_icmp .ne 14, 3) := by decide +kernel
theorem dX10_read_54 : decode cX10_read 54 = .ok (.aload_n 0, 1) := by decide +kernel
theorem dX10_read_55 : decode cX10_read 55 = .ok (.aload_n 0, 1) := by decide +kernel
theorem dX10_read_56 : decode cX10_read 56 = .ok (.getfield 80, 3) := by decide +kernel
theorem dX10_read_59 : decode cX10_read 59 = .ok (.invokevirtual 106, 3) := by decide +kernel
theorem dX10_read_62 : decode cX10_read 62 = .ok (.goto 18, 3) := by decide +kernel
theorem dX10_read_65 : decode cX10_read 65 = .ok (.iload_n 1, 1) := by decide +kernel
theorem dX10_read_66 : decode cX10_read 66 = .ok (.ifCond .eq 10, 3) := by decide +kernel
theorem dX10_read_69 : decode cX10_read 69 = .ok (.aload_n 0, 1) := by decide +kernel
theorem dX10_read_70 : decode cX10_read 70 = .ok (.invokevirtual 161, 3) := by decide +kernel
theorem dX10_read_73 : decode cX10_read 73 = .ok (.goto 7, 3) := by decide +kernel
theorem dX10_read_76 : decode cX10_read 76 = .ok (.aload_n 0, 1) := by decide +kernel
theorem dX10_read_77 : decode cX10_read 77 = .ok (.invokevirtual 164, 3) := by decide +kernel
theorem dX10_read_80 : decode cX10_read 80 = .ok (.iinc 3 1, 3) := by decide +kernel
theorem dX10_read_83 : decode cX10_read 83 = .ok (.aload_n 0, 1) := by decide +kernel
theorem dX10_read_84 : decode cX10_read 84 = .ok (.invokevirtual 90, 3) := by decide +kernel
theorem dX10_read_87 : decode cX10_read 87 = .ok (.aload_n 0, 1) := by decide +kernel
theorem dX10_read_88 : decode cX10_read 88 = .ok (.getfield 25, 3) := by decide +kernel
theorem dX10_read_91 : decode cX10_read 91 = .ok (.iconst (-1), 1) := by decide +kernel
theorem dX10_read_92 : decode cX10_read 92 = .ok (.if_icmp .ne 14, 3) := by decide +kernel
theorem dX10_read_95 : decode cX10_read 95 = .ok (.aload_n 0, 1) := by decide +kernel
theorem dX10_read_96 : decode cX10_read 96 = .ok (.getfield 80, 3) := by decide +kernel
theorem dX10_read_99 : decode cX10_read 99 = .ok (.aload_n 0, 1) := by decide +kernel
theorem dX10_read_100 : decode cX10_read 100 = .ok (.getfield 83, 3) := by decide +kernel
theorem dX10_read_103 : decode cX10_read 103 = .ok (.if_icmp .ne 8, 3) := by decide +kernel
theorem dX10_read_106 : decode cX10_read 106 = .ok (.iconst 0, 1) := by decide +kernel
theorem dX10_read_107 : decode cX10_read 107 = .ok (.istore_n 2, 1) := by decide +kernel
theorem dX10_read_108 : decode cX10_read 108 = .ok (.goto (-85), 3) := by decide +kernel
theorem dX10_read_111 : decode cX10_read 111 = .ok (.aload_n 0, 1) := by decide +kernel
theorem dX10_read_112 : decode cX10_read 112 = .ok (.bipush 59, 2) := by decide +kernel
theorem dX10_read_114 : decode cX10_read 114 = .ok (.invokevirtual 167, 3) := by decide +kernel
theorem dX10_read_117 : decode cX10_read 117 = .ok (.ifCond .eq 16, 3) := by decide +kernel
theorem dX10_read_120 : decode cX10_read 120 = .ok (.aload_n 0, 1) := by decide +kernel
theorem dX10_read_121 : decode cX10_read 121 = .ok (.dup, 1) := by decide +kernel
theorem dX10_read_122 : decode cX10_read 122 = .ok (.getfield 80, 3) := by decide +kernel
theorem dX10_read_125 : decode cX10_read 125 = .ok (.iconst 1, 1) := by decide +kernel
theorem dX10_read_126 : decode cX10_read 126 = .ok (.iadd, 1) := by decide +kernel
theorem dX10_read_127 : decode cX10_read 127 = .ok (.putfield 80, 3) := by decide +kernel
theorem dX10_read_130 : decode cX10_read 130 = .ok (.goto (-107), 3) := by decide +kernel
theorem dX10_read_133 : decode cX10_read 133 = .ok (.aload_n 0, 1) := by decide +kernel
theorem dX10_read_134 : decode cX10_read 134 = .ok (.aload_n 0, 1) := by decide +kernel
theorem dX10_read_135 : decode cX10_read 135 = .ok (.getfield 80, 3) := by decide +kernel
theorem dX10_read_138 : decode cX10_read 138 = .ok (.invokevirtual 106, 3) := by decide +kernel
theorem dX10_read_141 : decode cX10_read 141 = .ok (.goto (-118), 3) := by decide +kernel
theorem dX10_read_144 : decode cX10_read 144 = .ok (.iload_n 3, 1) := by decide +kernel
theorem dX10_read_145 : decode cX10_read 145 = .ok (.ireturn, 1) := by decide +kernel
theorem dX10_putsAside_0 : decode cX10_putsAside 0 = .ok (.iconst 0, 1) := by decide +kernel
theorem dX10_putsAside_1 : decode cX10_putsAside 1 = .ok (.istore_n 1, 1) := by decide +kernel
theorem dX10_putsAside_2 : decode cX10_putsAside 2 = .ok (.iload_n 1, 1) := by decide +kernel
theorem dX10_putsAside_3 : decode cX10_putsAside 3 = .ok (.sipush 407, 3) := by decide +kernel
theorem dX10_putsAside_6 : decode cX10_putsAside 6 = .ok (.if_icmp .ge 21, 3) := by decide +kernel
theorem dX10_putsAside_9 : decode cX10_putsAside 9 = .ok (.aload_n 0, 1) := by decide +kernel
theorem dX10_putsAside_10 : decode cX10_putsAside 10 = .ok (.getfield 16, 3) := by decide +kernel
theorem dX10_putsAside_13 : decode cX10_putsAside 13 = .ok (.iload_n 1, 1) := by decide +kernel
theorem dX10_putsAside_14 : decode cX10_putsAside 14 = .ok (.aload_n 0, 1) := by decide +kernel
theorem dX10_putsAside_15 : decode cX10_putsAside 15 = .ok (.getfield 7, 3) := by decide +kernel
theorem dX10_putsAside_18 : decode cX10_putsAside 18 = .ok (.iload_n 1, 1) := by decide +kernel
theorem dX10_putsAside_19 : decode cX10_putsAside 19 = .ok (.iaload, 1) := by decide +kernel
theorem dX10_putsAside_20 : decode cX10_putsAside 20 = .ok (.iastore, 1) := by decide +kernel
theorem dX10_putsAside_21 : decode cX10_putsAside 21 = .ok (.iinc 1 1, 3) := by decide +kernel
theorem dX10_putsAside_24 : decode cX10_putsAside 24 = .ok (.goto (-22), 3) := by decide +kernel
theorem dX10_putsAside_27 : decode cX10_putsAside 27 = .ok (.return_, 1) := by decide +kernel
theorem dX10_comesBack_0 : decode cX10_comesBack 0 = .ok (.iconst 0, 1) := by decide +kernel
theorem dX10_comesBack_1 : decode cX10_comesBack 1 = .ok (.istore_n 1, 1) := by decide +kernel
theorem dX10_comesBack_2 : decode cX10_comesBack 2 = .ok (.iload_n 1, 1) := by decide +kernel
theorem dX10_comesBack_3 : decode cX10_comesBack 3 = .ok (.sipush 407, 3) := by decide +kernel
theorem dX10_comesBack_6 : decode cX10_comesBack 6 = .ok (.if_icmp .ge 21, 3) := by decide +kernel
theorem dX10_comesBack_9 : decode cX10_comesBack 9 = .ok (.aload_n 0, 1) := by decide +kernel
theorem dX10_comesBack_10 : decode cX10_comesBack 10 = .ok (.getfield 7, 3) := by decide +kernel
theorem dX10_comesBack_13 : decode cX10_comesBack 13 = .ok (.iload_n 1, 1) := by decide +kernel
theorem dX10_comesBack_14 : decode cX10_comesBack 14 = .ok (.aload_n 0, 1) := by decide +kernel
theorem dX10_comesBack_15 : decode cX10_comesBack 15 = .ok (.getfield 16, 3) := by decide +kernel
theorem dX10_comesBack_18 : decode cX10_comesBack 18 = .ok (.iload_n 1, 1) := by decide +kernel
theorem dX10_comesBack_19 : decode cX10_comesBack 19 = .ok (.iaload, 1) := by decide +kernel
theorem dX10_comesBack_20 : decode cX10_comesBack 20 = .ok (.iastore, 1) := by decide +kernel
theorem dX10_comesBack_21 : decode cX10_comesBack 21 = .ok (.iinc 1 1, 3) := by decide +kernel
theorem dX10_comesBack_24 : decode cX10_comesBack 24 = .ok (.goto (-22), 3) := by decide +kernel
theorem dX10_comesBack_27 : decode cX10_comesBack 27 = .ok (.return_, 1) := by decide +kernel
theorem dX10_hall_0 : decode cX10_hall 0 = .ok (.aload_n 0, 1) := by decide +kernel
theorem dX10_hall_1 : decode cX10_hall 1 = .ok (.invokevirtual 171, 3) := by decide +kernel
theorem dX10_hall_4 : decode cX10_hall 4 = .ok (.aload_n 0, 1) := by decide +kernel
theorem dX10_hall_5 : decode cX10_hall 5 = .ok (.invokevirtual 174, 3) := by decide +kernel
theorem dX10_hall_8 : decode cX10_hall 8 = .ok (.aload_n 0, 1) := by decide +kernel
theorem dX10_hall_9 : decode cX10_hall 9 = .ok (.iconst 0, 1) := by decide +kernel
theorem dX10_hall_10 : decode cX10_hall 10 = .ok (.invokevirtual 177, 3) := by decide +kernel
theorem dX10_hall_13 : decode cX10_hall 13 = .ok (.istore_n 1, 1) := by decide +kernel
theorem dX10_hall_14 : decode cX10_hall 14 = .ok (.aload_n 0, 1) := by decide +kernel
theorem dX10_hall_15 : decode cX10_hall 15 = .ok (.aload_n 0, 1) := by decide +kernel
theorem dX10_hall_16 : decode cX10_hall 16 = .ok (.getfield 25, 3) := by decide +kernel
theorem dX10_hall_19 : decode cX10_hall 19 = .ok (.iconst (-1), 1) := by decide +kernel
theorem dX10_hall_20 : decode cX10_hall 20 = .ok (.if_icmp .eq 7, 3) := by decide +kernel
theorem dX10_hall_23 : decode cX10_hall 23 = .ok (.iconst 1, 1) := by decide +kernel
theorem dX10_hall_24 : decode cX10_hall 24 = .ok (.goto 19, 3) := by decide +kernel
theorem dX10_hall_27 : decode cX10_hall 27 = .ok (.aload_n 0, 1) := by decide +kernel
theorem dX10_hall_28 : decode cX10_hall 28 = .ok (.getfield 7, 3) := by decide +kernel
theorem dX10_hall_31 : decode cX10_hall 31 = .ok (.iconst 0, 1) := by decide +kernel
theorem dX10_hall_32 : decode cX10_hall 32 = .ok (.iaload, 1) := by decide +kernel
theorem dX10_hall_33 : decode cX10_hall 33 = .ok (.bipush 12, 2) := by decide +kernel
theorem dX10_hall_35 : decode cX10_hall 35 = .ok (.if_icmp .ne 7, 3) := by decide +kernel
theorem dX10_hall_38 : decode cX10_hall 38 = .ok (.iconst 2, 1) := by decide +kernel
theorem dX10_hall_39 : decode cX10_hall 39 = .ok (.goto 4, 3) := by decide +kernel
theorem dX10_hall_42 : decode cX10_hall 42 = .ok (.iconst 0, 1) := by decide +kernel
theorem dX10_hall_43 : decode cX10_hall 43 = .ok (.putfield 63, 3) := by decide +kernel
theorem dX10_hall_46 : decode cX10_hall 46 = .ok (.aload_n 0, 1) := by decide +kernel
theorem dX10_hall_47 : decode cX10_hall 47 = .ok (.getfield 63, 3) := by decide +kernel
theorem dX10_hall_50 : decode cX10_hall 50 = .ok (.ifCond .le 9, 3) := by decide +kernel
theorem dX10_hall_53 : decode cX10_hall 53 = .ok (.aload_n 0, 1) := by decide +kernel
theorem dX10_hall_54 : decode cX10_hall 54 = .ok (.invokevirtual 181, 3) := by decide +kernel
theorem dX10_hall_57 : decode cX10_hall 57 = .ok (.iconst 0, 1) := by decide +kernel
theorem dX10_hall_58 : decode cX10_hall 58 = .ok (.ireturn, 1) := by decide +kernel
theorem dX10_hall_59 : decode cX10_hall 59 = .ok (.aload_n 0, 1) := by decide +kernel
theorem dX10_hall_60 : decode cX10_hall 60 = .ok (.getfield 7, 3) := by decide +kernel
theorem dX10_hall_63 : decode cX10_hall 63 = .ok (.iconst 0, 1) := by decide +kernel
theorem dX10_hall_64 : decode cX10_hall 64 = .ok (.dup2, 1) := by decide +kernel
theorem dX10_hall_65 : decode cX10_hall 65 = .ok (.iaload, 1) := by decide +kernel
theorem dX10_hall_66 : decode cX10_hall 66 = .ok (.iconst 1, 1) := by decide +kernel
theorem dX10_hall_67 : decode cX10_hall 67 = .ok (.iadd, 1) := by decide +kernel
theorem dX10_hall_68 : decode cX10_hall 68 = .ok (.iastore, 1) := by decide +kernel
theorem dX10_hall_69 : decode cX10_hall 69 = .ok (.aload_n 0, 1) := by decide +kernel
theorem dX10_hall_70 : decode cX10_hall 70 = .ok (.iconst 0, 1) := by decide +kernel
theorem dX10_hall_71 : decode cX10_hall 71 = .ok (.putfield 184, 3) := by decide +kernel
theorem dX10_hall_74 : decode cX10_hall 74 = .ok (.aload_n 0, 1) := by decide +kernel
theorem dX10_hall_75 : decode cX10_hall 75 = .ok (.getfield 7, 3) := by decide +kernel
theorem dX10_hall_78 : decode cX10_hall 78 = .ok (.iconst 0, 1) := by decide +kernel
theorem dX10_hall_79 : decode cX10_hall 79 = .ok (.iaload, 1) := by decide +kernel
theorem dX10_hall_80 : decode cX10_hall 80 = .ok (.ireturn, 1) := by decide +kernel
theorem dX10_part_0 : decode cX10_part 0 = .ok (.aload_n 0, 1) := by decide +kernel
theorem dX10_part_1 : decode cX10_part 1 = .ok (.getfield 25, 3) := by decide +kernel
theorem dX10_part_4 : decode cX10_part 4 = .ok (.iconst (-1), 1) := by decide +kernel
theorem dX10_part_5 : decode cX10_part 5 = .ok (.if_icmp .eq 5, 3) := by decide +kernel
theorem dX10_part_8 : decode cX10_part 8 = .ok (.iconst 0, 1) := by decide +kernel
theorem dX10_part_9 : decode cX10_part 9 = .ok (.ireturn, 1) := by decide +kernel
theorem dX10_part_10 : decode cX10_part 10 = .ok (.aload_n 0, 1) := by decide +kernel
theorem dX10_part_11 : decode cX10_part 11 = .ok (.invokevirtual 90, 3) := by decide +kernel
theorem dX10_part_14 : decode cX10_part 14 = .ok (.aload_n 0, 1) := by decide +kernel
theorem dX10_part_15 : decode cX10_part 15 = .ok (.getfield 80, 3) := by decide +kernel
theorem dX10_part_18 : decode cX10_part 18 = .ok (.aload_n 0, 1) := by decide +kernel
theorem dX10_part_19 : decode cX10_part 19 = .ok (.getfield 83, 3) := by decide +kernel
theorem dX10_part_22 : decode cX10_part 22 = .ok (.if_icmp .ge 30, 3) := by decide +kernel
theorem dX10_part_25 : decode cX10_part 25 = .ok (.aload_n 0, 1) := by decide +kernel
theorem dX10_part_26 : decode cX10_part 26 = .ok (.aload_n 0, 1) := by decide +kernel
theorem dX10_part_27 : decode cX10_part 27 = .ok (.getfield 80, 3) := by decide +kernel
theorem dX10_part_30 : decode cX10_part 30 = .ok (.invokevirtual 86, 3) := by decide +kernel
theorem dX10_part_33 : decode cX10_part 33 = .ok (.bipush 48, 2) := by decide +kernel
theorem dX10_part_35 : decode cX10_part 35 = .ok (.bipush 57, 2) := by decide +kernel
theorem dX10_part_37 : decode cX10_part 37 = .ok (.invokestatic 66, 3) := by decide +kernel
theorem dX10_part_40 : decode cX10_part 40 = .ok (.ifCond .eq 12, 3) := by decide +kernel
theorem dX10_part_43 : decode cX10_part 43 = .ok (.aload_n 0, 1) := by decide +kernel
theorem dX10_part_44 : decode cX10_part 44 = .ok (.iconst 0, 1) := by decide +kernel
theorem dX10_part_45 : decode cX10_part 45 = .ok (.sipush 999, 3) := by decide +kernel
theorem dX10_part_48 : decode cX10_part 48 = .ok (.invokevirtual 114, 3) := by decide +kernel
theorem dX10_part_51 : decode cX10_part 51 = .ok (.ireturn, 1) := by decide +kernel
theorem dX10_part_52 : decode cX10_part 52 = .ok (.aload_n 0, 1) := by decide +kernel
theorem dX10_part_53 : decode cX10_part 53 = .ok (.ldc 132, 2) := by decide +kernel
theorem dX10_part_55 : decode cX10_part 55 = .ok (.invokevirtual 110, 3) := by decide +kernel
theorem dX10_part_58 : decode cX10_part 58 = .ok (.ifCond .eq 7, 3) := by decide +kernel
theorem dX10_part_61 : decode cX10_part 61 = .ok (.iconst 0, 1) := by decide +kernel
theorem dX10_part_62 : decode cX10_part 62 = .ok (.goto 69, 3) := by decide +kernel
theorem dX10_part_65 : decode cX10_part 65 = .ok (.aload_n 0, 1) := by decide +kernel
theorem dX10_part_66 : decode cX10_part 66 = .ok (.ldc 134, 2) := by decide +kernel
theorem dX10_part_68 : decode cX10_part 68 = .ok (.invokevirtual 110, 3) := by decide +kernel
theorem dX10_part_71 : decode cX10_part 71 = .ok (.ifCond .eq 7, 3) := by decide +kernel
theorem dX10_part_74 : decode cX10_part 74 = .ok (.iconst 1, 1) := by decide +kernel
theorem dX10_part_75 : decode cX10_part 75 = .ok (.goto 56, 3) := by decide +kernel
theorem dX10_part_78 : decode cX10_part 78 = .ok (.aload_n 0, 1) := by decide +kernel
theorem dX10_part_79 : decode cX10_part 79 = .ok (.ldc 136, 2) := by decide +kernel
theorem dX10_part_81 : decode cX10_part 81 = .ok (.invokevirtual 110, 3) := by decide +kernel
theorem dX10_part_84 : decode cX10_part 84 = .ok (.ifCond .eq 7, 3) := by decide +kernel
theorem dX10_part_87 : decode cX10_part 87 = .ok (.iconst 2, 1) := by decide +kernel
theorem dX10_part_88 : decode cX10_part 88 = .ok (.goto 43, 3) := by decide +kernel
theorem dX10_part_91 : decode cX10_part 91 = .ok (.aload_n 0, 1) := by decide +kernel
theorem dX10_part_92 : decode cX10_part 92 = .ok (.ldc 187, 2) := by decide +kernel
theorem dX10_part_94 : decode cX10_part 94 = .ok (.invokevirtual 110, 3) := by decide +kernel
theorem dX10_part_97 : decode cX10_part 97 = .ok (.ifCond .eq 7, 3) := by decide +kernel
theorem dX10_part_100 : decode cX10_part 100 = .ok (.iconst 3, 1) := by decide +kernel
theorem dX10_part_101 : decode cX10_part 101 = .ok (.goto 30, 3) := by decide +kernel
theorem dX10_part_104 : decode cX10_part 104 = .ok (.aload_n 0, 1) := by decide +kernel
theorem dX10_part_105 : decode cX10_part 105 = .ok (.ldc 189, 2) := by decide +kernel
theorem dX10_part_107 : decode cX10_part 107 = .ok (.invokevirtual 110, 3) := by decide +kernel
theorem dX10_part_110 : decode cX10_part 110 = .ok (.ifCond .eq 7, 3) := by decide +kernel
theorem dX10_part_113 : decode cX10_part 113 = .ok (.iconst 4, 1) := by decide +kernel
theorem dX10_part_114 : decode cX10_part 114 = .ok (.goto 17, 3) := by decide +kernel
theorem dX10_part_117 : decode cX10_part 117 = .ok (.aload_n 0, 1) := by decide +kernel
theorem dX10_part_118 : decode cX10_part 118 = .ok (.ldc 191, 2) := by decide +kernel
theorem dX10_part_120 : decode cX10_part 120 = .ok (.invokevirtual 110, 3) := by decide +kernel
theorem dX10_part_123 : decode cX10_part 123 = .ok (.ifCond .eq 7, 3) := by decide +kernel
theorem dX10_part_126 : decode cX10_part 126 = .ok (.iconst 5, 1) := by decide +kernel
theorem dX10_part_127 : decode cX10_part 127 = .ok (.goto 4, 3) := by decide +kernel
theorem dX10_part_130 : decode cX10_part 130 = .ok (.iconst (-1), 1) := by decide +kernel
theorem dX10_part_131 : decode cX10_part 131 = .ok (.istore_n 1, 1) := by decide +kernel
theorem dX10_part_132 : decode cX10_part 132 = .ok (.iload_n 1, 1) := by decide +kernel
theorem dX10_part_133 : decode cX10_part 133 = .ok (.iconst (-1), 1) := by decide +kernel
theorem dX10_part_134 : decode cX10_part 134 = .ok (.if_icmp .ne 13, 3) := by decide +kernel
theorem dX10_part_137 : decode cX10_part 137 = .ok (.aload_n 0, 1) := by decide +kernel
theorem dX10_part_138 : decode cX10_part 138 = .ok (.aload_n 0, 1) := by decide +kernel
theorem dX10_part_139 : decode cX10_part 139 = .ok (.getfield 80, 3) := by decide +kernel
theorem dX10_part_142 : decode cX10_part 142 = .ok (.invokevirtual 106, 3) := by decide +kernel
theorem dX10_part_145 : decode cX10_part 145 = .ok (.iconst 0, 1) := by decide +kernel
theorem dX10_part_146 : decode cX10_part 146 = .ok (.ireturn, 1) := by decide +kernel
theorem dX10_part_147 : decode cX10_part 147 = .ok (.aload_n 0, 1) := by decide +kernel
theorem dX10_part_148 : decode cX10_part 148 = .ok (.getfield 29, 3) := by decide +kernel
theorem dX10_part_151 : decode cX10_part 151 = .ok (.iload_n 1, 1) := by decide +kernel
theorem dX10_part_152 : decode cX10_part 152 = .ok (.iaload, 1) := by decide +kernel
theorem dX10_part_153 : decode cX10_part 153 = .ok (.ireturn, 1) := by decide +kernel
theorem dX10_sum_0 : decode cX10_sum 0 = .ok (.aload_n 0, 1) := by decide +kernel
theorem dX10_sum_1 : decode cX10_sum 1 = .ok (.invokevirtual 193, 3) := by decide +kernel
theorem dX10_sum_4 : decode cX10_sum 4 = .ok (.istore_n 1, 1) := by decide +kernel
theorem dX10_sum_5 : decode cX10_sum 5 = .ok (.aload_n 0, 1) := by decide +kernel
theorem dX10_sum_6 : decode cX10_sum 6 = .ok (.getfield 25, 3) := by decide +kernel
theorem dX10_sum_9 : decode cX10_sum 9 = .ok (.iconst (-1), 1) := by decide +kernel
theorem dX10_sum_10 : decode cX10_sum 10 = .ok (.if_icmp .ne 32, 3) := by decide +kernel
theorem dX10_sum_13 : decode cX10_sum 13 = .ok (.aload_n 0, 1) := by decide +kernel
theorem dX10_sum_14 : decode cX10_sum 14 = .ok (.bipush 43, 2) := by decide +kernel
theorem dX10_sum_16 : decode cX10_sum 16 = .ok (.invokevirtual 167, 3) := by decide +kernel
theorem dX10_sum_19 : decode cX10_sum 19 = .ok (.ifCond .eq 23, 3) := by decide +kernel
theorem dX10_sum_22 : decode cX10_sum 22 = .ok (.aload_n 0, 1) := by decide +kernel
theorem dX10_sum_23 : decode cX10_sum 23 = .ok (.dup, 1) := by decide +kernel
theorem dX10_sum_24 : decode cX10_sum 24 = .ok (.getfield 80, 3) := by decide +kernel
theorem dX10_sum_27 : decode cX10_sum 27 = .ok (.iconst 1, 1) := by decide +kernel
theorem dX10_sum_28 : decode cX10_sum 28 = .ok (.iadd, 1) := by decide +kernel
theorem dX10_sum_29 : decode cX10_sum 29 = .ok (.putfield 80, 3) := by decide +kernel
theorem dX10_sum_32 : decode cX10_sum 32 = .ok (.iload_n 1, 1) := by decide +kernel
theorem dX10_sum_33 : decode cX10_sum 33 = .ok (.aload_n 0, 1) := by decide +kernel
theorem dX10_sum_34 : decode cX10_sum 34 = .ok (.invokevirtual 193, 3) := by decide +kernel
theorem dX10_sum_37 : decode cX10_sum 37 = .ok (.iadd, 1) := by decide +kernel
theorem dX10_sum_38 : decode cX10_sum 38 = .ok (.istore_n 1, 1) := by decide +kernel
theorem dX10_sum_39 : decode cX10_sum 39 = .ok (.goto (-34), 3) := by decide +kernel
theorem dX10_sum_42 : decode cX10_sum 42 = .ok (.iload_n 1, 1) := by decide +kernel
theorem dX10_sum_43 : decode cX10_sum 43 = .ok (.ireturn, 1) := by decide +kernel
theorem dX10_plain_0 : decode cX10_plain 0 = .ok (.aload_n 0, 1) := by decide +kernel
theorem dX10_plain_1 : decode cX10_plain 1 = .ok (.ldc 196, 2) := by decide +kernel
theorem dX10_plain_3 : decode cX10_plain 3 = .ok (.invokevirtual 110, 3) := by decide +kernel
theorem dX10_plain_6 : decode cX10_plain 6 = .ok (.ifCond .eq 7, 3) := by decide +kernel
theorem dX10_plain_9 : decode cX10_plain 9 = .ok (.iconst 0, 1) := by decide +kernel
theorem dX10_plain_10 : decode cX10_plain 10 = .ok (.goto 69, 3) := by decide +kernel
theorem dX10_plain_13 : decode cX10_plain 13 = .ok (.aload_n 0, 1) := by decide +kernel
theorem dX10_plain_14 : decode cX10_plain 14 = .ok (.ldc 198, 2) := by decide +kernel
theorem dX10_plain_16 : decode cX10_plain 16 = .ok (.invokevirtual 110, 3) := by decide +kernel
theorem dX10_plain_19 : decode cX10_plain 19 = .ok (.ifCond .eq 7, 3) := by decide +kernel
theorem dX10_plain_22 : decode cX10_plain 22 = .ok (.iconst 1, 1) := by decide +kernel
theorem dX10_plain_23 : decode cX10_plain 23 = .ok (.goto 56, 3) := by decide +kernel
theorem dX10_plain_26 : decode cX10_plain 26 = .ok (.aload_n 0, 1) := by decide +kernel
theorem dX10_plain_27 : decode cX10_plain 27 = .ok (.ldc 200, 2) := by decide +kernel
theorem dX10_plain_29 : decode cX10_plain 29 = .ok (.invokevirtual 110, 3) := by decide +kernel
theorem dX10_plain_32 : decode cX10_plain 32 = .ok (.ifCond .eq 7, 3) := by decide +kernel
theorem dX10_plain_35 : decode cX10_plain 35 = .ok (.iconst 2, 1) := by decide +kernel
theorem dX10_plain_36 : decode cX10_plain 36 = .ok (.goto 43, 3) := by decide +kernel
theorem dX10_plain_39 : decode cX10_plain 39 = .ok (.aload_n 0, 1) := by decide +kernel
theorem dX10_plain_40 : decode cX10_plain 40 = .ok (.ldc 202, 2) := by decide +kernel
theorem dX10_plain_42 : decode cX10_plain 42 = .ok (.invokevirtual 110, 3) := by decide +kernel
theorem dX10_plain_45 : decode cX10_plain 45 = .ok (.ifCond .eq 7, 3) := by decide +kernel
theorem dX10_plain_48 : decode cX10_plain 48 = .ok (.iconst 3, 1) := by decide +kernel
theorem dX10_plain_49 : decode cX10_plain 49 = .ok (.goto 30, 3) := by decide +kernel
theorem dX10_plain_52 : decode cX10_plain 52 = .ok (.aload_n 0, 1) := by decide +kernel
theorem dX10_plain_53 : decode cX10_plain 53 = .ok (.ldc 204, 2) := by decide +kernel
theorem dX10_plain_55 : decode cX10_plain 55 = .ok (.invokevirtual 110, 3) := by decide +kernel
theorem dX10_plain_58 : decode cX10_plain 58 = .ok (.ifCond .eq 7, 3) := by decide +kernel
theorem dX10_plain_61 : decode cX10_plain 61 = .ok (.iconst 4, 1) := by decide +kernel
theorem dX10_plain_62 : decode cX10_plain 62 = .ok (.goto 17, 3) := by decide +kernel
theorem dX10_plain_65 : decode cX10_plain 65 = .ok (.aload_n 0, 1) := by decide +kernel
theorem dX10_plain_66 : decode cX10_plain 66 = .ok (.ldc 206, 2) := by decide +kernel
theorem dX10_plain_68 : decode cX10_plain 68 = .ok (.invokevirtual 110, 3) := by decide +kernel
theorem dX10_plain_71 : decode cX10_plain 71 = .ok (.ifCond .eq 7, 3) := by decide +kernel
theorem dX10_plain_74 : decode cX10_plain 74 = .ok (.iconst 5, 1) := by decide +kernel
theorem dX10_plain_75 : decode cX10_plain 75 = .ok (.goto 4, 3) := by decide +kernel
theorem dX10_plain_78 : decode cX10_plain 78 = .ok (.iconst (-1), 1) := by decide +kernel
theorem dX10_plain_79 : decode cX10_plain 79 = .ok (.istore_n 1, 1) := by decide +kernel
theorem dX10_plain_80 : decode cX10_plain 80 = .ok (.iload_n 1, 1) := by decide +kernel
theorem dX10_plain_81 : decode cX10_plain 81 = .ok (.iconst (-1), 1) := by decide +kernel
theorem dX10_plain_82 : decode cX10_plain 82 = .ok (.if_icmp .eq 12, 3) := by decide +kernel
theorem dX10_plain_85 : decode cX10_plain 85 = .ok (.aload_n 0, 1) := by decide +kernel
theorem dX10_plain_86 : decode cX10_plain 86 = .ok (.getfield 208, 3) := by decide +kernel
theorem dX10_plain_89 : decode cX10_plain 89 = .ok (.iload_n 1, 1) := by decide +kernel
theorem dX10_plain_90 : decode cX10_plain 90 = .ok (.invokestatic 117, 3) := by decide +kernel
theorem dX10_plain_93 : decode cX10_plain 93 = .ok (.ireturn, 1) := by decide +kernel
theorem dX10_plain_94 : decode cX10_plain 94 = .ok (.aload_n 0, 1) := by decide +kernel
theorem dX10_plain_95 : decode cX10_plain 95 = .ok (.invokevirtual 211, 3) := by decide +kernel
theorem dX10_plain_98 : decode cX10_plain 98 = .ok (.istore_n 2, 1) := by decide +kernel
theorem dX10_plain_99 : decode cX10_plain 99 = .ok (.aload_n 0, 1) := by decide +kernel
theorem dX10_plain_100 : decode cX10_plain 100 = .ok (.getfield 25, 3) := by decide +kernel
theorem dX10_plain_103 : decode cX10_plain 103 = .ok (.iconst (-1), 1) := by decide +kernel
theorem dX10_plain_104 : decode cX10_plain 104 = .ok (.if_icmp .eq 5, 3) := by decide +kernel
theorem dX10_plain_107 : decode cX10_plain 107 = .ok (.iconst 0, 1) := by decide +kernel
theorem dX10_plain_108 : decode cX10_plain 108 = .ok (.ireturn, 1) := by decide +kernel
theorem dX10_plain_109 : decode cX10_plain 109 = .ok (.aload_n 0, 1) := by decide +kernel
theorem dX10_plain_110 : decode cX10_plain 110 = .ok (.bipush 60, 2) := by decide +kernel
theorem dX10_plain_112 : decode cX10_plain 112 = .ok (.invokevirtual 167, 3) := by decide +kernel
theorem dX10_plain_115 : decode cX10_plain 115 = .ok (.istore_n 3, 1) := by decide +kernel
theorem dX10_plain_116 : decode cX10_plain 116 = .ok (.iload_n 3, 1) := by decide +kernel
theorem dX10_plain_117 : decode cX10_plain 117 = .ok (.ifCond .ne 22, 3) := by decide +kernel
theorem dX10_plain_120 : decode cX10_plain 120 = .ok (.aload_n 0, 1) := by decide +kernel
theorem dX10_plain_121 : decode cX10_plain 121 = .ok (.bipush 62, 2) := by decide +kernel
theorem dX10_plain_123 : decode cX10_plain 123 = .ok (.invokevirtual 167, 3) := by decide +kernel
theorem dX10_plain_126 : decode cX10_plain 126 = .ok (.ifCond .ne 13, 3) := by decide +kernel
theorem dX10_plain_129 : decode cX10_plain 129 = .ok (.aload_n 0, 1) := by decide +kernel
theorem dX10_plain_130 : decode cX10_plain 130 = .ok (.aload_n 0, 1) := by decide +kernel
theorem dX10_plain_131 : decode cX10_plain 131 = .ok (.getfield 80, 3) := by decide +kernel
theorem dX10_plain_134 : decode cX10_plain 134 = .ok (.invokevirtual 106, 3) := by decide +kernel
theorem dX10_plain_137 : decode cX10_plain 137 = .ok (.iconst 0, 1) := by decide +kernel
theorem dX10_plain_138 : decode cX10_plain 138 = .ok (.ireturn, 1) := by decide +kernel
theorem dX10_plain_139 : decode cX10_plain 139 = .ok (.aload_n 0, 1) := by decide +kernel
theorem dX10_plain_140 : decode cX10_plain 140 = .ok (.dup, 1) := by decide +kernel
theorem dX10_plain_141 : decode cX10_plain 141 = .ok (.getfield 80, 3) := by decide +kernel
theorem dX10_plain_144 : decode cX10_plain 144 = .ok (.iconst 1, 1) := by decide +kernel
theorem dX10_plain_145 : decode cX10_plain 145 = .ok (.iadd, 1) := by decide +kernel
theorem dX10_plain_146 : decode cX10_plain 146 = .ok (.putfield 80, 3) := by decide +kernel
theorem dX10_plain_149 : decode cX10_plain 149 = .ok (.aload_n 0, 1) := by decide +kernel
theorem dX10_plain_150 : decode cX10_plain 150 = .ok (.invokevirtual 211, 3) := by decide +kernel
theorem dX10_plain_153 : decode cX10_plain 153 = .ok (.istore 4, 2) := by decide +kernel
theorem dX10_plain_155 : decode cX10_plain 155 = .ok (.iload_n 3, 1) := by decide +kernel
theorem dX10_plain_156 : decode cX10_plain 156 = .ok (.ifCond .eq 17, 3) := by decide +kernel
theorem dX10_plain_159 : decode cX10_plain 159 = .ok (.iload_n 2, 1) := by decide +kernel
theorem dX10_plain_160 : decode cX10_plain 160 = .ok (.iload 4, 2) := by decide +kernel
theorem dX10_plain_162 : decode cX10_plain 162 = .ok (.if_icmp .ge 7, 3) := by decide +kernel
theorem dX10_plain_165 : decode cX10_plain 165 = .ok (.iconst 1, 1) := by decide +kernel
theorem dX10_plain_166 : decode cX10_plain 166 = .ok (.goto 18, 3) := by decide +kernel
theorem dX10_plain_169 : decode cX10_plain 169 = .ok (.iconst 0, 1) := by decide +kernel
theorem dX10_plain_170 : decode cX10_plain 170 = .ok (.goto 14, 3) := by decide +kernel
theorem dX10_plain_173 : decode cX10_plain 173 = .ok (.iload_n 2, 1) := by decide +kernel
theorem dX10_plain_174 : decode cX10_plain 174 = .ok (.iload 4, 2) := by decide +kernel
theorem dX10_plain_176 : decode cX10_plain 176 = .ok (.if_icmp .le 7, 3) := by decide +kernel
theorem dX10_plain_179 : decode cX10_plain 179 = .ok (.iconst 1, 1) := by decide +kernel
theorem dX10_plain_180 : decode cX10_plain 180 = .ok (.goto 4, 3) := by decide +kernel
theorem dX10_plain_183 : decode cX10_plain 183 = .ok (.iconst 0, 1) := by decide +kernel
theorem dX10_plain_184 : decode cX10_plain 184 = .ok (.ireturn, 1) := by decide +kernel
theorem dX10_atom_0 : decode cX10_atom 0 = .ok (.aload_n 0, 1) := by decide +kernel
theorem dX10_atom_1 : decode cX10_atom 1 = .ok (.getfield 25, 3) := by decide +kernel
theorem dX10_atom_4 : decode cX10_atom 4 = .ok (.iconst (-1), 1) := by decide +kernel
theorem dX10_atom_5 : decode cX10_atom 5 = .ok (.if_icmp .eq 5, 3) := by decide +kernel
theorem dX10_atom_8 : decode cX10_atom 8 = .ok (.iconst 0, 1) := by decide +kernel
theorem dX10_atom_9 : decode cX10_atom 9 = .ok (.ireturn, 1) := by decide +kernel
theorem dX10_atom_10 : decode cX10_atom 10 = .ok (.aload_n 0, 1) := by decide +kernel
theorem dX10_atom_11 : decode cX10_atom 11 = .ok (.invokevirtual 103, 3) := by decide +kernel
theorem dX10_atom_14 : decode cX10_atom 14 = .ok (.istore_n 1, 1) := by decide +kernel
theorem dX10_atom_15 : decode cX10_atom 15 = .ok (.aload_n 0, 1) := by decide +kernel
theorem dX10_atom_16 : decode cX10_atom 16 = .ok (.ldc 214, 2) := by decide +kernel
theorem dX10_atom_18 : decode cX10_atom 18 = .ok (.invokevirtual 110, 3) := by decide +kernel
theorem dX10_atom_21 : decode cX10_atom 21 = .ok (.istore_n 2, 1) := by decide +kernel
theorem dX10_atom_22 : decode cX10_atom 22 = .ok (.iload_n 2, 1) := by decide +kernel
theorem dX10_atom_23 : decode cX10_atom 23 = .ok (.ifCond .ne 17, 3) := by decide +kernel
theorem dX10_atom_26 : decode cX10_atom 26 = .ok (.aload_n 0, 1) := by decide +kernel
theorem dX10_atom_27 : decode cX10_atom 27 = .ok (.bipush 40, 2) := by decide +kernel
theorem dX10_atom_29 : decode cX10_atom 29 = .ok (.invokevirtual 167, 3) := by decide +kernel
theorem dX10_atom_32 : decode cX10_atom 32 = .ok (.ifCond .ne 8, 3) := by decide +kernel
theorem dX10_atom_35 : decode cX10_atom 35 = .ok (.aload_n 0, 1) := by decide +kernel
theorem dX10_atom_36 : decode cX10_atom 36 = .ok (.invokevirtual 216, 3) := by decide +kernel
theorem dX10_atom_39 : decode cX10_atom 39 = .ok (.ireturn, 1) := by decide +kernel
theorem dX10_atom_40 : decode cX10_atom 40 = .ok (.aload_n 0, 1) := by decide +kernel
theorem dX10_atom_41 : decode cX10_atom 41 = .ok (.getfield 158, 3) := by decide +kernel
theorem dX10_atom_44 : decode cX10_atom 44 = .ok (.bipush 6, 2) := by decide +kernel
theorem dX10_atom_46 : decode cX10_atom 46 = .ok (.if_icmp .ne 10, 3) := by decide +kernel
theorem dX10_atom_49 : decode cX10_atom 49 = .ok (.aload_n 0, 1) := by decide +kernel
theorem dX10_atom_50 : decode cX10_atom 50 = .ok (.iload_n 1, 1) := by decide +kernel
theorem dX10_atom_51 : decode cX10_atom 51 = .ok (.invokevirtual 106, 3) := by decide +kernel
theorem dX10_atom_54 : decode cX10_atom 54 = .ok (.iconst 0, 1) := by decide +kernel
theorem dX10_atom_55 : decode cX10_atom 55 = .ok (.ireturn, 1) := by decide +kernel
theorem dX10_atom_56 : decode cX10_atom 56 = .ok (.aload_n 0, 1) := by decide +kernel
theorem dX10_atom_57 : decode cX10_atom 57 = .ok (.dup, 1) := by decide +kernel
theorem dX10_atom_58 : decode cX10_atom 58 = .ok (.getfield 158, 3) := by decide +kernel
theorem dX10_atom_61 : decode cX10_atom 61 = .ok (.iconst 1, 1) := by decide +kernel
theorem dX10_atom_62 : decode cX10_atom 62 = .ok (.iadd, 1) := by decide +kernel
theorem dX10_atom_63 : decode cX10_atom 63 = .ok (.putfield 158, 3) := by decide +kernel
theorem dX10_atom_66 : decode cX10_atom 66 = .ok (.iconst 0, 1) := by decide +kernel
theorem dX10_atom_67 : decode cX10_atom 67 = .ok (.istore_n 3, 1) := by decide +kernel
theorem dX10_atom_68 : decode cX10_atom 68 = .ok (.iload_n 2, 1) := by decide +kernel
theorem dX10_atom_69 : decode cX10_atom 69 = .ok (.ifCond .eq 19, 3) := by decide +kernel
theorem dX10_atom_72 : decode cX10_atom 72 = .ok (.aload_n 0, 1) := by decide +kernel
theorem dX10_atom_73 : decode cX10_atom 73 = .ok (.invokevirtual 220, 3) := by decide +kernel
theorem dX10_atom_76 : decode cX10_atom 76 = .ok (.ifCond .ne 7, 3) := by decide +kernel
theorem dX10_atom_79 : decode cX10_atom 79 = .ok (.iconst 1, 1) := by decide +kernel
theorem dX10_atom_80 : decode cX10_atom 80 = .ok (.goto 4, 3) := by decide +kernel
theorem dX10_atom_83 : decode cX10_atom 83 = .ok (.iconst 0, 1) := by decide +kernel
theorem dX10_atom_84 : decode cX10_atom 84 = .ok (.istore_n 3, 1) := by decide +kernel
theorem dX10_atom_85 : decode cX10_atom 85 = .ok (.goto 53, 3) := by decide +kernel
theorem dX10_atom_88 : decode cX10_atom 88 = .ok (.aload_n 0, 1) := by decide +kernel
theorem dX10_atom_89 : decode cX10_atom 89 = .ok (.dup, 1) := by decide +kernel
theorem dX10_atom_90 : decode cX10_atom 90 = .ok (.getfield 80, 3) := by decide +kernel
theorem dX10_atom_93 : decode cX10_atom 93 = .ok (.iconst 1, 1) := by decide +kernel
theorem dX10_atom_94 : decode cX10_atom 94 = .ok (.iadd, 1) := by decide +kernel
theorem dX10_atom_95 : decode cX10_atom 95 = .ok (.putfield 80, 3) := by decide +kernel
theorem dX10_atom_98 : decode cX10_atom 98 = .ok (.aload_n 0, 1) := by decide +kernel
theorem dX10_atom_99 : decode cX10_atom 99 = .ok (.invokevirtual 223, 3) := by decide +kernel
theorem dX10_atom_102 : decode cX10_atom 102 = .ok (.istore_n 3, 1) := by decide +kernel
theorem dX10_atom_103 : decode cX10_atom 103 = .ok (.aload_n 0, 1) := by decide +kernel
theorem dX10_atom_104 : decode cX10_atom 104 = .ok (.getfield 25, 3) := by decide +kernel
theorem dX10_atom_107 : decode cX10_atom 107 = .ok (.iconst (-1), 1) := by decide +kernel
theorem dX10_atom_108 : decode cX10_atom 108 = .ok (.if_icmp .ne 20, 3) := by decide +kernel
theorem dX10_atom_111 : decode cX10_atom 111 = .ok (.aload_n 0, 1) := by decide +kernel
theorem dX10_atom_112 : decode cX10_atom 112 = .ok (.bipush 41, 2) := by decide +kernel
theorem dX10_atom_114 : decode cX10_atom 114 = .ok (.invokevirtual 167, 3) := by decide +kernel
theorem dX10_atom_117 : decode cX10_atom 117 = .ok (.ifCond .ne 11, 3) := by decide +kernel
theorem dX10_atom_120 : decode cX10_atom 120 = .ok (.aload_n 0, 1) := by decide +kernel
theorem dX10_atom_121 : decode cX10_atom 121 = .ok (.aload_n 0, 1) := by decide +kernel
theorem dX10_atom_122 : decode cX10_atom 122 = .ok (.getfield 80, 3) := by decide +kernel
theorem dX10_atom_125 : decode cX10_atom 125 = .ok (.invokevirtual 106, 3) := by decide +kernel
theorem dX10_atom_128 : decode cX10_atom 128 = .ok (.aload_n 0, 1) := by decide +kernel
theorem dX10_atom_129 : decode cX10_atom 129 = .ok (.dup, 1) := by decide +kernel
theorem dX10_atom_130 : decode cX10_atom 130 = .ok (.getfield 80, 3) := by decide +kernel
theorem dX10_atom_133 : decode cX10_atom 133 = .ok (.iconst 1, 1) := by decide +kernel
theorem dX10_atom_134 : decode cX10_atom 134 = .ok (.iadd, 1) := by decide +kernel
theorem dX10_atom_135 : decode cX10_atom 135 = .ok (.putfield 80, 3) := by decide +kernel
theorem dX10_atom_138 : decode cX10_atom 138 = .ok (.aload_n 0, 1) := by decide +kernel
theorem dX10_atom_139 : decode cX10_atom 139 = .ok (.dup, 1) := by decide +kernel
theorem dX10_atom_140 : decode cX10_atom 140 = .ok (.getfield 158, 3) := by decide +kernel
theorem dX10_atom_143 : decode cX10_atom 143 = .ok (.iconst 1, 1) := by decide +kernel
theorem dX10_atom_144 : decode cX10_atom 144 = .ok (.isub, 1) := by decide +kernel
theorem dX10_atom_145 : decode cX10_atom 145 = .ok (.putfield 158, 3) := by decide +kernel
theorem dX10_atom_148 : decode cX10_atom 148 = .ok (.iload_n 3, 1) := by decide +kernel
theorem dX10_atom_149 : decode cX10_atom 149 = .ok (.ireturn, 1) := by decide +kernel
theorem dX10_every_0 : decode cX10_every 0 = .ok (.aload_n 0, 1) := by decide +kernel
theorem dX10_every_1 : decode cX10_every 1 = .ok (.invokevirtual 220, 3) := by decide +kernel
theorem dX10_every_4 : decode cX10_every 4 = .ok (.istore_n 1, 1) := by decide +kernel
theorem dX10_every_5 : decode cX10_every 5 = .ok (.aload_n 0, 1) := by decide +kernel
theorem dX10_every_6 : decode cX10_every 6 = .ok (.getfield 25, 3) := by decide +kernel
theorem dX10_every_9 : decode cX10_every 9 = .ok (.iconst (-1), 1) := by decide +kernel
theorem dX10_every_10 : decode cX10_every 10 = .ok (.if_icmp .ne 34, 3) := by decide +kernel
theorem dX10_every_13 : decode cX10_every 13 = .ok (.aload_n 0, 1) := by decide +kernel
theorem dX10_every_14 : decode cX10_every 14 = .ok (.ldc 226, 2) := by decide +kernel
theorem dX10_every_16 : decode cX10_every 16 = .ok (.invokevirtual 110, 3) := by decide +kernel
theorem dX10_every_19 : decode cX10_every 19 = .ok (.ifCond .eq 25, 3) := by decide +kernel
theorem dX10_every_22 : decode cX10_every 22 = .ok (.aload_n 0, 1) := by decide +kernel
theorem dX10_every_23 : decode cX10_every 23 = .ok (.invokevirtual 220, 3) := by decide +kernel
theorem dX10_every_26 : decode cX10_every 26 = .ok (.istore_n 2, 1) := by decide +kernel
theorem dX10_every_27 : decode cX10_every 27 = .ok (.iload_n 1, 1) := by decide +kernel
theorem dX10_every_28 : decode cX10_every 28 = .ok (.ifCond .eq 11, 3) := by decide +kernel
theorem dX10_every_31 : decode cX10_every 31 = .ok (.iload_n 2, 1) := by decide +kernel
theorem dX10_every_32 : decode cX10_every 32 = .ok (.ifCond .eq 7, 3) := by decide +kernel
theorem dX10_every_35 : decode cX10_every 35 = .ok (.iconst 1, 1) := by decide +kernel
theorem dX10_every_36 : decode cX10_every 36 = .ok (.goto 4, 3) := by decide +kernel
theorem dX10_every_39 : decode cX10_every 39 = .ok (.iconst 0, 1) := by decide +kernel
theorem dX10_every_40 : decode cX10_every 40 = .ok (.istore_n 1, 1) := by decide +kernel
theorem dX10_every_41 : decode cX10_every 41 = .ok (.goto (-36), 3) := by decide +kernel
theorem dX10_every_44 : decode cX10_every 44 = .ok (.iload_n 1, 1) := by decide +kernel
theorem dX10_every_45 : decode cX10_every 45 = .ok (.ireturn, 1) := by decide +kernel
theorem dX10_some_0 : decode cX10_some 0 = .ok (.aload_n 0, 1) := by decide +kernel
theorem dX10_some_1 : decode cX10_some 1 = .ok (.invokevirtual 228, 3) := by decide +kernel
theorem dX10_some_4 : decode cX10_some 4 = .ok (.istore_n 1, 1) := by decide +kernel
theorem dX10_some_5 : decode cX10_some 5 = .ok (.aload_n 0, 1) := by decide +kernel
theorem dX10_some_6 : decode cX10_some 6 = .ok (.getfield 25, 3) := by decide +kernel
theorem dX10_some_9 : decode cX10_some 9 = .ok (.iconst (-1), 1) := by decide +kernel
theorem dX10_some_10 : decode cX10_some 10 = .ok (.if_icmp .ne 34, 3) := by decide +kernel
theorem dX10_some_13 : decode cX10_some 13 = .ok (.aload_n 0, 1) := by decide +kernel
theorem dX10_some_14 : decode cX10_some 14 = .ok (.ldc 231, 2) := by decide +kernel
theorem dX10_some_16 : decode cX10_some 16 = .ok (.invokevirtual 110, 3) := by decide +kernel
theorem dX10_some_19 : decode cX10_some 19 = .ok (.ifCond .eq 25, 3) := by decide +kernel
theorem dX10_some_22 : decode cX10_some 22 = .ok (.aload_n 0, 1) := by decide +kernel
theorem dX10_some_23 : decode cX10_some 23 = .ok (.invokevirtual 228, 3) := by decide +kernel
theorem dX10_some_26 : decode cX10_some 26 = .ok (.istore_n 2, 1) := by decide +kernel
theorem dX10_some_27 : decode cX10_some 27 = .ok (.iload_n 1, 1) := by decide +kernel
theorem dX10_some_28 : decode cX10_some 28 = .ok (.ifCond .ne 7, 3) := by decide +kernel
theorem dX10_some_31 : decode cX10_some 31 = .ok (.iload_n 2, 1) := by decide +kernel
theorem dX10_some_32 : decode cX10_some 32 = .ok (.ifCond .eq 7, 3) := by decide +kernel
theorem dX10_some_35 : decode cX10_some 35 = .ok (.iconst 1, 1) := by decide +kernel
theorem dX10_some_36 : decode cX10_some 36 = .ok (.goto 4, 3) := by decide +kernel
theorem dX10_some_39 : decode cX10_some 39 = .ok (.iconst 0, 1) := by decide +kernel
theorem dX10_some_40 : decode cX10_some 40 = .ok (.istore_n 1, 1) := by decide +kernel
theorem dX10_some_41 : decode cX10_some 41 = .ok (.goto (-36), 3) := by decide +kernel
theorem dX10_some_44 : decode cX10_some 44 = .ok (.iload_n 1, 1) := by decide +kernel
theorem dX10_some_45 : decode cX10_some 45 = .ok (.ireturn, 1) := by decide +kernel
theorem dX10_lawLine_0 : decode cX10_lawLine 0 = .ok (.aload_n 0, 1) := by decide +kernel
theorem dX10_lawLine_1 : decode cX10_lawLine 1 = .ok (.ldc 233, 2) := by decide +kernel
theorem dX10_lawLine_3 : decode cX10_lawLine 3 = .ok (.invokevirtual 110, 3) := by decide +kernel
theorem dX10_lawLine_6 : decode cX10_lawLine 6 = .ok (.istore_n 1, 1) := by decide +kernel
theorem dX10_lawLine_7 : decode cX10_lawLine 7 = .ok (.iload_n 1, 1) := by decide +kernel
theorem dX10_lawLine_8 : decode cX10_lawLine 8 = .ok (.ifCond .ne 21, 3) := by decide +kernel
theorem dX10_lawLine_11 : decode cX10_lawLine 11 = .ok (.aload_n 0, 1) := by decide +kernel
theorem dX10_lawLine_12 : decode cX10_lawLine 12 = .ok (.ldc 235, 2) := by decide +kernel
theorem dX10_lawLine_14 : decode cX10_lawLine 14 = .ok (.invokevirtual 110, 3) := by decide +kernel
theorem dX10_lawLine_17 : decode cX10_lawLine 17 = .ok (.ifCond .ne 12, 3) := by decide +kernel
theorem dX10_lawLine_20 : decode cX10_lawLine 20 = .ok (.aload_n 0, 1) := by decide +kernel
theorem dX10_lawLine_21 : decode cX10_lawLine 21 = .ok (.aload_n 0, 1) := by decide +kernel
theorem dX10_lawLine_22 : decode cX10_lawLine 22 = .ok (.getfield 80, 3) := by decide +kernel
theorem dX10_lawLine_25 : decode cX10_lawLine 25 = .ok (.invokevirtual 106, 3) := by decide +kernel
theorem dX10_lawLine_28 : decode cX10_lawLine 28 = .ok (.return_, 1) := by decide +kernel
theorem dX10_lawLine_29 : decode cX10_lawLine 29 = .ok (.aload_n 0, 1) := by decide +kernel
theorem dX10_lawLine_30 : decode cX10_lawLine 30 = .ok (.ldc 237, 2) := by decide +kernel
theorem dX10_lawLine_32 : decode cX10_lawLine 32 = .ok (.invokevirtual 110, 3) := by decide +kernel
theorem dX10_lawLine_35 : decode cX10_lawLine 35 = .ok (.istore_n 2, 1) := by decide +kernel
theorem dX10_lawLine_36 : decode cX10_lawLine 36 = .ok (.iload_n 2, 1) := by decide +kernel
theorem dX10_lawLine_37 : decode cX10_lawLine 37 = .ok (.ifCond .eq 7, 3) := by decide +kernel
theorem dX10_lawLine_40 : decode cX10_lawLine 40 = .ok (.iconst (-1), 1) := by decide +kernel
theorem dX10_lawLine_41 : decode cX10_lawLine 41 = .ok (.goto 10, 3) := by decide +kernel
theorem dX10_lawLine_44 : decode cX10_lawLine 44 = .ok (.aload_n 0, 1) := by decide +kernel
theorem dX10_lawLine_45 : decode cX10_lawLine 45 = .ok (.iconst 0, 1) := by decide +kernel
theorem dX10_lawLine_46 : decode cX10_lawLine 46 = .ok (.bipush 8, 2) := by decide +kernel
theorem dX10_lawLine_48 : decode cX10_lawLine 48 = .ok (.invokevirtual 114, 3) := by decide +kernel
theorem dX10_lawLine_51 : decode cX10_lawLine 51 = .ok (.istore_n 3, 1) := by decide +kernel
theorem dX10_lawLine_52 : decode cX10_lawLine 52 = .ok (.aload_n 0, 1) := by decide +kernel
theorem dX10_lawLine_53 : decode cX10_lawLine 53 = .ok (.iconst 0, 1) := by decide +kernel
theorem dX10_lawLine_54 : decode cX10_lawLine 54 = .ok (.bipush 99, 2) := by decide +kernel
theorem dX10_lawLine_56 : decode cX10_lawLine 56 = .ok (.invokevirtual 114, 3) := by decide +kernel
theorem dX10_lawLine_59 : decode cX10_lawLine 59 = .ok (.istore 4, 2) := by decide +kernel
theorem dX10_lawLine_61 : decode cX10_lawLine 61 = .ok (.aload_n 0, 1) := by decide +kernel
theorem dX10_lawLine_62 : decode cX10_lawLine 62 = .ok (.getfield 25, 3) := by decide +kernel
theorem dX10_lawLine_65 : decode cX10_lawLine 65 = .ok (.iconst (-1), 1) := by decide +kernel
theorem dX10_lawLine_66 : decode cX10_lawLine 66 = .ok (.if_icmp .eq 4, 3) := by decide +kernel
theorem dX10_lawLine_69 : decode cX10_lawLine 69 = .ok (.return_, 1) := by decide +kernel
theorem dX10_lawLine_70 : decode cX10_lawLine 70 = .ok (.aload_n 0, 1) := by decide +kernel
theorem dX10_lawLine_71 : decode cX10_lawLine 71 = .ok (.ldc 239, 2) := by decide +kernel
theorem dX10_lawLine_73 : decode cX10_lawLine 73 = .ok (.invokevirtual 110, 3) := by decide +kernel
theorem dX10_lawLine_76 : decode cX10_lawLine 76 = .ok (.ifCond .eq 10, 3) := by decide +kernel
theorem dX10_lawLine_79 : decode cX10_lawLine 79 = .ok (.aload_n 0, 1) := by decide +kernel
theorem dX10_lawLine_80 : decode cX10_lawLine 80 = .ok (.invokevirtual 223, 3) := by decide +kernel
theorem dX10_lawLine_83 : decode cX10_lawLine 83 = .ok (.ifCond .eq 7, 3) := by decide +kernel
theorem dX10_lawLine_86 : decode cX10_lawLine 86 = .ok (.iconst 1, 1) := by decide +kernel
theorem dX10_lawLine_87 : decode cX10_lawLine 87 = .ok (.goto 4, 3) := by decide +kernel
theorem dX10_lawLine_90 : decode cX10_lawLine 90 = .ok (.iconst 0, 1) := by decide +kernel
theorem dX10_lawLine_91 : decode cX10_lawLine 91 = .ok (.istore 5, 2) := by decide +kernel
theorem dX10_lawLine_93 : decode cX10_lawLine 93 = .ok (.aload_n 0, 1) := by decide +kernel
theorem dX10_lawLine_94 : decode cX10_lawLine 94 = .ok (.getfield 25, 3) := by decide +kernel
theorem dX10_lawLine_97 : decode cX10_lawLine 97 = .ok (.iconst (-1), 1) := by decide +kernel
theorem dX10_lawLine_98 : decode cX10_lawLine 98 = .ok (.if_icmp .ne 20, 3) := by decide +kernel
theorem dX10_lawLine_101 : decode cX10_lawLine 101 = .ok (.iload 5, 2) := by decide +kernel
theorem dX10_lawLine_103 : decode cX10_lawLine 103 = .ok (.ifCond .eq 15, 3) := by decide +kernel
theorem dX10_lawLine_106 : decode cX10_lawLine 106 = .ok (.iload_n 2, 1) := by decide +kernel
theorem dX10_lawLine_107 : decode cX10_lawLine 107 = .ok (.ifCond .ne 12, 3) := by decide +kernel
theorem dX10_lawLine_110 : decode cX10_lawLine 110 = .ok (.iload_n 3, 1) := by decide +kernel
theorem dX10_lawLine_111 : decode cX10_lawLine 111 = .ok (.aload_n 0, 1) := by decide +kernel
theorem dX10_lawLine_112 : decode cX10_lawLine 112 = .ok (.getfield 241, 3) := by decide +kernel
theorem dX10_lawLine_115 : decode cX10_lawLine 115 = .ok (.if_icmp .eq 4, 3) := by decide +kernel
theorem dX10_lawLine_118 : decode cX10_lawLine 118 = .ok (.return_, 1) := by decide +kernel
theorem dX10_lawLine_119 : decode cX10_lawLine 119 = .ok (.aload_n 0, 1) := by decide +kernel
theorem dX10_lawLine_120 : decode cX10_lawLine 120 = .ok (.dup, 1) := by decide +kernel
theorem dX10_lawLine_121 : decode cX10_lawLine 121 = .ok (.getfield 244, 3) := by decide +kernel
theorem dX10_lawLine_124 : decode cX10_lawLine 124 = .ok (.iload_n 1, 1) := by decide +kernel
theorem dX10_lawLine_125 : decode cX10_lawLine 125 = .ok (.ifCond .eq 8, 3) := by decide +kernel
theorem dX10_lawLine_128 : decode cX10_lawLine 128 = .ok (.iload 4, 2) := by decide +kernel
theorem dX10_lawLine_130 : decode cX10_lawLine 130 = .ok (.goto 6, 3) := by decide +kernel
theorem dX10_lawLine_133 : decode cX10_lawLine 133 = .ok (.iload 4, 2) := by decide +kernel
theorem dX10_lawLine_135 : decode cX10_lawLine 135 = .ok (.ineg, 1) := by decide +kernel
theorem dX10_lawLine_136 : decode cX10_lawLine 136 = .ok (.iadd, 1) := by decide +kernel
theorem dX10_lawLine_137 : decode cX10_lawLine 137 = .ok (.putfield 244, 3) := by decide +kernel
theorem dX10_lawLine_140 : decode cX10_lawLine 140 = .ok (.return_, 1) := by decide +kernel
theorem dX10_law_0 : decode cX10_law 0 = .ok (.aload_n 0, 1) := by decide +kernel
theorem dX10_law_1 : decode cX10_law 1 = .ok (.invokevirtual 174, 3) := by decide +kernel
theorem dX10_law_4 : decode cX10_law 4 = .ok (.aload_n 0, 1) := by decide +kernel
theorem dX10_law_5 : decode cX10_law 5 = .ok (.iconst 1, 1) := by decide +kernel
theorem dX10_law_6 : decode cX10_law 6 = .ok (.invokevirtual 177, 3) := by decide +kernel
theorem dX10_law_9 : decode cX10_law 9 = .ok (.istore_n 1, 1) := by decide +kernel
theorem dX10_law_10 : decode cX10_law 10 = .ok (.aload_n 0, 1) := by decide +kernel
theorem dX10_law_11 : decode cX10_law 11 = .ok (.aload_n 0, 1) := by decide +kernel
theorem dX10_law_12 : decode cX10_law 12 = .ok (.getfield 25, 3) := by decide +kernel
theorem dX10_law_15 : decode cX10_law 15 = .ok (.iconst (-1), 1) := by decide +kernel
theorem dX10_law_16 : decode cX10_law 16 = .ok (.if_icmp .eq 7, 3) := by decide +kernel
theorem dX10_law_19 : decode cX10_law 19 = .ok (.iconst 1, 1) := by decide +kernel
theorem dX10_law_20 : decode cX10_law 20 = .ok (.goto 4, 3) := by decide +kernel
theorem dX10_law_23 : decode cX10_law 23 = .ok (.iconst 0, 1) := by decide +kernel
theorem dX10_law_24 : decode cX10_law 24 = .ok (.putfield 63, 3) := by decide +kernel
theorem dX10_law_27 : decode cX10_law 27 = .ok (.aload_n 0, 1) := by decide +kernel
theorem dX10_law_28 : decode cX10_law 28 = .ok (.getfield 63, 3) := by decide +kernel
theorem dX10_law_31 : decode cX10_law 31 = .ok (.ifCond .le 5, 3) := by decide +kernel
theorem dX10_law_34 : decode cX10_law 34 = .ok (.iconst 0, 1) := by decide +kernel
theorem dX10_law_35 : decode cX10_law 35 = .ok (.ireturn, 1) := by decide +kernel
theorem dX10_law_36 : decode cX10_law 36 = .ok (.aload_n 0, 1) := by decide +kernel
theorem dX10_law_37 : decode cX10_law 37 = .ok (.getfield 7, 3) := by decide +kernel
theorem dX10_law_40 : decode cX10_law 40 = .ok (.iconst 1, 1) := by decide +kernel
theorem dX10_law_41 : decode cX10_law 41 = .ok (.iload_n 1, 1) := by decide +kernel
theorem dX10_law_42 : decode cX10_law 42 = .ok (.iastore, 1) := by decide +kernel
theorem dX10_law_43 : decode cX10_law 43 = .ok (.aload_n 0, 1) := by decide +kernel
theorem dX10_law_44 : decode cX10_law 44 = .ok (.getfield 7, 3) := by decide +kernel
theorem dX10_law_47 : decode cX10_law 47 = .ok (.iconst 2, 1) := by decide +kernel
theorem dX10_law_48 : decode cX10_law 48 = .ok (.aload_n 0, 1) := by decide +kernel
theorem dX10_law_49 : decode cX10_law 49 = .ok (.getfield 83, 3) := by decide +kernel
theorem dX10_law_52 : decode cX10_law 52 = .ok (.iastore, 1) := by decide +kernel
theorem dX10_law_53 : decode cX10_law 53 = .ok (.iconst 0, 1) := by decide +kernel
