theorem dX9_of_0 : decode cX9_of 0 = .ok (.aload_n 0, 1) := by decide +kernel
theorem dX9_of_1 : decode cX9_of 1 = .ok (.iload_n 1, 1) := by decide +kernel
theorem dX9_of_2 : decode cX9_of 2 = .ok (.invokevirtual 117, 3) := by decide +kernel
theorem dX9_of_5 : decode cX9_of 5 = .ok (.ifCond .eq 12, 3) := by decide +kernel
theorem dX9_of_8 : decode cX9_of 8 = .ok (.iload_n 2, 1) := by decide +kernel
theorem dX9_of_9 : decode cX9_of 9 = .ok (.iconst 0, 1) := by decide +kernel
theorem dX9_of_10 : decode cX9_of 10 = .ok (.iconst 5, 1) := by decide +kernel
theorem dX9_of_11 : decode cX9_of 11 = .ok (.invokestatic 94, 3) := by decide +kernel
theorem dX9_of_14 : decode cX9_of 14 = .ok (.ifCond .ne 5, 3) := by decide +kernel
theorem dX9_of_17 : decode cX9_of 17 = .ok (.iconst (-1), 1) := by decide +kernel
theorem dX9_of_18 : decode cX9_of 18 = .ok (.ireturn, 1) := by decide +kernel
theorem dX9_of_19 : decode cX9_of 19 = .ok (.iload_n 2, 1) := by decide +kernel
theorem dX9_of_20 : decode cX9_of 20 = .ok (.iconst 4, 1) := by decide +kernel
theorem dX9_of_21 : decode cX9_of 21 = .ok (.if_icmp .ge 10, 3) := by decide +kernel
theorem dX9_of_24 : decode cX9_of 24 = .ok (.aload_n 0, 1) := by decide +kernel
theorem dX9_of_25 : decode cX9_of 25 = .ok (.iload_n 1, 1) := by decide +kernel
theorem dX9_of_26 : decode cX9_of 26 = .ok (.iload_n 2, 1) := by decide +kernel
theorem dX9_of_27 : decode cX9_of 27 = .ok (.invokevirtual 121, 3) := by decide +kernel
theorem dX9_of_30 : decode cX9_of 30 = .ok (.ireturn, 1) := by decide +kernel
theorem dX9_of_31 : decode cX9_of 31 = .ok (.aload_n 0, 1) := by decide +kernel
theorem dX9_of_32 : decode cX9_of 32 = .ok (.invokevirtual 279, 3) := by decide +kernel
theorem dX9_of_35 : decode cX9_of 35 = .ok (.iload_n 2, 1) := by decide +kernel
theorem dX9_of_36 : decode cX9_of 36 = .ok (.iconst 4, 1) := by decide +kernel
theorem dX9_of_37 : decode cX9_of 37 = .ok (.if_icmp .ne 12, 3) := by decide +kernel
theorem dX9_of_40 : decode cX9_of 40 = .ok (.aload_n 0, 1) := by decide +kernel
theorem dX9_of_41 : decode cX9_of 41 = .ok (.getfield 55, 3) := by decide +kernel
theorem dX9_of_44 : decode cX9_of 44 = .ok (.iload_n 1, 1) := by decide +kernel
theorem dX9_of_45 : decode cX9_of 45 = .ok (.iaload, 1) := by decide +kernel
theorem dX9_of_46 : decode cX9_of 46 = .ok (.goto 9, 3) := by decide +kernel
theorem dX9_of_49 : decode cX9_of 49 = .ok (.aload_n 0, 1) := by decide +kernel
theorem dX9_of_50 : decode cX9_of 50 = .ok (.getfield 58, 3) := by decide +kernel
theorem dX9_of_53 : decode cX9_of 53 = .ok (.iload_n 1, 1) := by decide +kernel
theorem dX9_of_54 : decode cX9_of 54 = .ok (.iaload, 1) := by decide +kernel
theorem dX9_of_55 : decode cX9_of 55 = .ok (.ireturn, 1) := by decide +kernel
theorem dX9_can_0 : decode cX9_can 0 = .ok (.aload_n 0, 1) := by decide +kernel
theorem dX9_can_1 : decode cX9_can 1 = .ok (.iload_n 1, 1) := by decide +kernel
theorem dX9_can_2 : decode cX9_can 2 = .ok (.invokevirtual 117, 3) := by decide +kernel
theorem dX9_can_5 : decode cX9_can 5 = .ok (.ifCond .eq 11, 3) := by decide +kernel
theorem dX9_can_8 : decode cX9_can 8 = .ok (.aload_n 0, 1) := by decide +kernel
theorem dX9_can_9 : decode cX9_can 9 = .ok (.iload_n 2, 1) := by decide +kernel
theorem dX9_can_10 : decode cX9_can 10 = .ok (.invokevirtual 282, 3) := by decide +kernel
theorem dX9_can_13 : decode cX9_can 13 = .ok (.ifCond .ne 5, 3) := by decide +kernel
theorem dX9_can_16 : decode cX9_can 16 = .ok (.iconst (-1), 1) := by decide +kernel
theorem dX9_can_17 : decode cX9_can 17 = .ok (.ireturn, 1) := by decide +kernel
theorem dX9_can_18 : decode cX9_can 18 = .ok (.aload_n 0, 1) := by decide +kernel
theorem dX9_can_19 : decode cX9_can 19 = .ok (.invokevirtual 279, 3) := by decide +kernel
theorem dX9_can_22 : decode cX9_can 22 = .ok (.aload_n 0, 1) := by decide +kernel
theorem dX9_can_23 : decode cX9_can 23 = .ok (.getfield 61, 3) := by decide +kernel
theorem dX9_can_26 : decode cX9_can 26 = .ok (.iload_n 1, 1) := by decide +kernel
theorem dX9_can_27 : decode cX9_can 27 = .ok (.iaload, 1) := by decide +kernel
theorem dX9_can_28 : decode cX9_can 28 = .ok (.iload_n 2, 1) := by decide +kernel
theorem dX9_can_29 : decode cX9_can 29 = .ok (.invokestatic 269, 3) := by decide +kernel
theorem dX9_can_32 : decode cX9_can 32 = .ok (.ifCond .eq 7, 3) := by decide +kernel
theorem dX9_can_35 : decode cX9_can 35 = .ok (.iconst 1, 1) := by decide +kernel
theorem dX9_can_36 : decode cX9_can 36 = .ok (.goto 4, 3) := by decide +kernel
theorem dX9_can_39 : decode cX9_can 39 = .ok (.iconst 0, 1) := by decide +kernel
theorem dX9_can_40 : decode cX9_can 40 = .ok (.ireturn, 1) := by decide +kernel
theorem dX9_mayNext_0 : decode cX9_mayNext 0 = .ok (.aload_n 0, 1) := by decide +kernel
theorem dX9_mayNext_1 : decode cX9_mayNext 1 = .ok (.getfield 20, 3) := by decide +kernel
theorem dX9_mayNext_4 : decode cX9_mayNext 4 = .ok (.bipush 41, 2) := by decide +kernel
theorem dX9_mayNext_6 : decode cX9_mayNext 6 = .ok (.iaload, 1) := by decide +kernel
theorem dX9_mayNext_7 : decode cX9_mayNext 7 = .ok (.iconst 1, 1) := by decide +kernel
theorem dX9_mayNext_8 : decode cX9_mayNext 8 = .ok (.if_icmp .eq 8, 3) := by decide +kernel
theorem dX9_mayNext_11 : decode cX9_mayNext 11 = .ok (.iload_n 1, 1) := by decide +kernel
theorem dX9_mayNext_12 : decode cX9_mayNext 12 = .ok (.iload_n 2, 1) := by decide +kernel
theorem dX9_mayNext_13 : decode cX9_mayNext 13 = .ok (.if_icmp .eq 7, 3) := by decide +kernel
theorem dX9_mayNext_16 : decode cX9_mayNext 16 = .ok (.iconst 1, 1) := by decide +kernel
theorem dX9_mayNext_17 : decode cX9_mayNext 17 = .ok (.goto 4, 3) := by decide +kernel
theorem dX9_mayNext_20 : decode cX9_mayNext 20 = .ok (.iconst 0, 1) := by decide +kernel
theorem dX9_mayNext_21 : decode cX9_mayNext 21 = .ok (.ireturn, 1) := by decide +kernel
theorem dX9_needs_0 : decode cX9_needs 0 = .ok (.iconst 0, 1) := by decide +kernel
theorem dX9_needs_1 : decode cX9_needs 1 = .ok (.istore_n 1, 1) := by decide +kernel
theorem dX9_needs_2 : decode cX9_needs 2 = .ok (.iload_n 1, 1) := by decide +kernel
theorem dX9_needs_3 : decode cX9_needs 3 = .ok (.iconst 1, 1) := by decide +kernel
theorem dX9_needs_4 : decode cX9_needs 4 = .ok (.aload_n 0, 1) := by decide +kernel
theorem dX9_needs_5 : decode cX9_needs 5 = .ok (.invokevirtual 105, 3) := by decide +kernel
theorem dX9_needs_8 : decode cX9_needs 8 = .ok (.ishl, 1) := by decide +kernel
theorem dX9_needs_9 : decode cX9_needs 9 = .ok (.if_icmp .ge 46, 3) := by decide +kernel
theorem dX9_needs_12 : decode cX9_needs 12 = .ok (.iconst 0, 1) := by decide +kernel
theorem dX9_needs_13 : decode cX9_needs 13 = .ok (.istore_n 2, 1) := by decide +kernel
theorem dX9_needs_14 : decode cX9_needs 14 = .ok (.iload_n 2, 1) := by decide +kernel
theorem dX9_needs_15 : decode cX9_needs 15 = .ok (.iconst 4, 1) := by decide +kernel
theorem dX9_needs_16 : decode cX9_needs 16 = .ok (.if_icmp .gt 33, 3) := by decide +kernel
theorem dX9_needs_19 : decode cX9_needs 19 = .ok (.aload_n 0, 1) := by decide +kernel
theorem dX9_needs_20 : decode cX9_needs 20 = .ok (.getfield 67, 3) := by decide +kernel
theorem dX9_needs_23 : decode cX9_needs 23 = .ok (.iconst 5, 1) := by decide +kernel
theorem dX9_needs_24 : decode cX9_needs 24 = .ok (.iload_n 1, 1) := by decide +kernel
theorem dX9_needs_25 : decode cX9_needs 25 = .ok (.imul, 1) := by decide +kernel
theorem dX9_needs_26 : decode cX9_needs 26 = .ok (.iload_n 2, 1) := by decide +kernel
theorem dX9_needs_27 : decode cX9_needs 27 = .ok (.iadd, 1) := by decide +kernel
theorem dX9_needs_28 : decode cX9_needs 28 = .ok (.iload_n 1, 1) := by decide +kernel
theorem dX9_needs_29 : decode cX9_needs 29 = .ok (.ifCond .ne 7, 3) := by decide +kernel
theorem dX9_needs_32 : decode cX9_needs 32 = .ok (.iconst 0, 1) := by decide +kernel
theorem dX9_needs_33 : decode cX9_needs 33 = .ok (.goto 9, 3) := by decide +kernel
theorem dX9_needs_36 : decode cX9_needs 36 = .ok (.aload_n 0, 1) := by decide +kernel
theorem dX9_needs_37 : decode cX9_needs 37 = .ok (.iload_n 1, 1) := by decide +kernel
theorem dX9_needs_38 : decode cX9_needs 38 = .ok (.iload_n 2, 1) := by decide +kernel
theorem dX9_needs_39 : decode cX9_needs 39 = .ok (.invokevirtual 285, 3) := by decide +kernel
theorem dX9_needs_42 : decode cX9_needs 42 = .ok (.iastore, 1) := by decide +kernel
theorem dX9_needs_43 : decode cX9_needs 43 = .ok (.iinc 2 1, 3) := by decide +kernel
theorem dX9_needs_46 : decode cX9_needs 46 = .ok (.goto (-32), 3) := by decide +kernel
theorem dX9_needs_49 : decode cX9_needs 49 = .ok (.iinc 1 1, 3) := by decide +kernel
theorem dX9_needs_52 : decode cX9_needs 52 = .ok (.goto (-50), 3) := by decide +kernel
theorem dX9_needs_55 : decode cX9_needs 55 = .ok (.return_, 1) := by decide +kernel
theorem dX9_needOf_0 : decode cX9_needOf 0 = .ok (.ldc 146, 2) := by decide +kernel
theorem dX9_needOf_2 : decode cX9_needOf 2 = .ok (.istore_n 3, 1) := by decide +kernel
theorem dX9_needOf_3 : decode cX9_needOf 3 = .ok (.iconst 0, 1) := by decide +kernel
theorem dX9_needOf_4 : decode cX9_needOf 4 = .ok (.istore 4, 2) := by decide +kernel
theorem dX9_needOf_6 : decode cX9_needOf 6 = .ok (.iload 4, 2) := by decide +kernel
theorem dX9_needOf_8 : decode cX9_needOf 8 = .ok (.aload_n 0, 1) := by decide +kernel
theorem dX9_needOf_9 : decode cX9_needOf 9 = .ok (.invokevirtual 105, 3) := by decide +kernel
theorem dX9_needOf_12 : decode cX9_needOf 12 = .ok (.if_icmp .ge 118, 3) := by decide +kernel
theorem dX9_needOf_15 : decode cX9_needOf 15 = .ok (.iconst 0, 1) := by decide +kernel
theorem dX9_needOf_16 : decode cX9_needOf 16 = .ok (.istore 5, 2) := by decide +kernel
theorem dX9_needOf_18 : decode cX9_needOf 18 = .ok (.iload 5, 2) := by decide +kernel
theorem dX9_needOf_20 : decode cX9_needOf 20 = .ok (.iconst 4, 1) := by decide +kernel
theorem dX9_needOf_21 : decode cX9_needOf 21 = .ok (.if_icmp .ge 103, 3) := by decide +kernel
theorem dX9_needOf_24 : decode cX9_needOf 24 = .ok (.iload_n 1, 1) := by decide +kernel
theorem dX9_needOf_25 : decode cX9_needOf 25 = .ok (.iload 4, 2) := by decide +kernel
theorem dX9_needOf_27 : decode cX9_needOf 27 = .ok (.invokestatic 269, 3) := by decide +kernel
theorem dX9_needOf_30 : decode cX9_needOf 30 = .ok (.ifCond .eq 88, 3) := by decide +kernel
theorem dX9_needOf_33 : decode cX9_needOf 33 = .ok (.aload_n 0, 1) := by decide +kernel
theorem dX9_needOf_34 : decode cX9_needOf 34 = .ok (.getfield 61, 3) := by decide +kernel
theorem dX9_needOf_37 : decode cX9_needOf 37 = .ok (.iload 4, 2) := by decide +kernel
theorem dX9_needOf_39 : decode cX9_needOf 39 = .ok (.iaload, 1) := by decide +kernel
theorem dX9_needOf_40 : decode cX9_needOf 40 = .ok (.iload 5, 2) := by decide +kernel
theorem dX9_needOf_42 : decode cX9_needOf 42 = .ok (.invokestatic 269, 3) := by decide +kernel
theorem dX9_needOf_45 : decode cX9_needOf 45 = .ok (.ifCond .eq 73, 3) := by decide +kernel
theorem dX9_needOf_48 : decode cX9_needOf 48 = .ok (.aload_n 0, 1) := by decide +kernel
theorem dX9_needOf_49 : decode cX9_needOf 49 = .ok (.iload_n 2, 1) := by decide +kernel
theorem dX9_needOf_50 : decode cX9_needOf 50 = .ok (.iload 5, 2) := by decide +kernel
theorem dX9_needOf_52 : decode cX9_needOf 52 = .ok (.invokevirtual 288, 3) := by decide +kernel
theorem dX9_needOf_55 : decode cX9_needOf 55 = .ok (.ifCond .ne 6, 3) := by decide +kernel
theorem dX9_needOf_58 : decode cX9_needOf 58 = .ok (.goto 60, 3) := by decide +kernel
theorem dX9_needOf_61 : decode cX9_needOf 61 = .ok (.aload_n 0, 1) := by decide +kernel
theorem dX9_needOf_62 : decode cX9_needOf 62 = .ok (.iload 4, 2) := by decide +kernel
theorem dX9_needOf_64 : decode cX9_needOf 64 = .ok (.iconst 0, 1) := by decide +kernel
theorem dX9_needOf_65 : decode cX9_needOf 65 = .ok (.invokevirtual 121, 3) := by decide +kernel
theorem dX9_needOf_68 : decode cX9_needOf 68 = .ok (.aload_n 0, 1) := by decide +kernel
theorem dX9_needOf_69 : decode cX9_needOf 69 = .ok (.getfield 67, 3) := by decide +kernel
theorem dX9_needOf_72 : decode cX9_needOf 72 = .ok (.iconst 5, 1) := by decide +kernel
theorem dX9_needOf_73 : decode cX9_needOf 73 = .ok (.iload_n 1, 1) := by decide +kernel
theorem dX9_needOf_74 : decode cX9_needOf 74 = .ok (.iconst 1, 1) := by decide +kernel
theorem dX9_needOf_75 : decode cX9_needOf 75 = .ok (.iload 4, 2) := by decide +kernel
theorem dX9_needOf_77 : decode cX9_needOf 77 = .ok (.ishl, 1) := by decide +kernel
theorem dX9_needOf_78 : decode cX9_needOf 78 = .ok (.iconst (-1), 1) := by decide +kernel
theorem dX9_needOf_79 : decode cX9_needOf 79 = .ok (.ixor, 1) := by decide +kernel
theorem dX9_needOf_80 : decode cX9_needOf 80 = .ok (.iand, 1) := by decide +kernel
theorem dX9_needOf_81 : decode cX9_needOf 81 = .ok (.imul, 1) := by decide +kernel
theorem dX9_needOf_82 : decode cX9_needOf 82 = .ok (.iload 5, 2) := by decide +kernel
theorem dX9_needOf_84 : decode cX9_needOf 84 = .ok (.iadd, 1) := by decide +kernel
theorem dX9_needOf_85 : decode cX9_needOf 85 = .ok (.iaload, 1) := by decide +kernel
theorem dX9_needOf_86 : decode cX9_needOf 86 = .ok (.invokestatic 291, 3) := by decide +kernel
theorem dX9_needOf_89 : decode cX9_needOf 89 = .ok (.istore 6, 2) := by decide +kernel
theorem dX9_needOf_91 : decode cX9_needOf 91 = .ok (.iload 6, 2) := by decide +kernel
theorem dX9_needOf_93 : decode cX9_needOf 93 = .ok (.aload_n 0, 1) := by decide +kernel
theorem dX9_needOf_94 : decode cX9_needOf 94 = .ok (.iload 4, 2) := by decide +kernel
theorem dX9_needOf_96 : decode cX9_needOf 96 = .ok (.iconst 1, 1) := by decide +kernel
theorem dX9_needOf_97 : decode cX9_needOf 97 = .ok (.invokevirtual 121, 3) := by decide +kernel
theorem dX9_needOf_100 : decode cX9_needOf 100 = .ok (.if_icmp .gt 18, 3) := by decide +kernel
theorem dX9_needOf_103 : decode cX9_needOf 103 = .ok (.iload_n 3, 1) := by decide +kernel
theorem dX9_needOf_104 : decode cX9_needOf 104 = .ok (.iload 6, 2) := by decide +kernel
theorem dX9_needOf_106 : decode cX9_needOf 106 = .ok (.aload_n 0, 1) := by decide +kernel
theorem dX9_needOf_107 : decode cX9_needOf 107 = .ok (.getfield 58, 3) := by decide +kernel
theorem dX9_needOf_110 : decode cX9_needOf 110 = .ok (.iload 4, 2) := by decide +kernel
theorem dX9_needOf_112 : decode cX9_needOf 112 = .ok (.iaload, 1) := by decide +kernel
theorem dX9_needOf_113 : decode cX9_needOf 113 = .ok (.iadd, 1) := by decide +kernel
theorem dX9_needOf_114 : decode cX9_needOf 114 = .ok (.invokestatic 294, 3) := by decide +kernel
theorem dX9_needOf_117 : decode cX9_needOf 117 = .ok (.istore_n 3, 1) := by decide +kernel
theorem dX9_needOf_118 : decode cX9_needOf 118 = .ok (.iinc 5 1, 3) := by decide +kernel
theorem dX9_needOf_121 : decode cX9_needOf 121 = .ok (.goto (-103), 3) := by decide +kernel
theorem dX9_needOf_124 : decode cX9_needOf 124 = .ok (.iinc 4 1, 3) := by decide +kernel
theorem dX9_needOf_127 : decode cX9_needOf 127 = .ok (.goto (-121), 3) := by decide +kernel
theorem dX9_needOf_130 : decode cX9_needOf 130 = .ok (.iload_n 3, 1) := by decide +kernel
theorem dX9_needOf_131 : decode cX9_needOf 131 = .ok (.ireturn, 1) := by decide +kernel
theorem dX9_toldSet_0 : decode cX9_toldSet 0 = .ok (.iconst 0, 1) := by decide +kernel
theorem dX9_toldSet_1 : decode cX9_toldSet 1 = .ok (.istore_n 1, 1) := by decide +kernel
theorem dX9_toldSet_2 : decode cX9_toldSet 2 = .ok (.iconst 0, 1) := by decide +kernel
theorem dX9_toldSet_3 : decode cX9_toldSet 3 = .ok (.istore_n 2, 1) := by decide +kernel
theorem dX9_toldSet_4 : decode cX9_toldSet 4 = .ok (.iload_n 2, 1) := by decide +kernel
theorem dX9_toldSet_5 : decode cX9_toldSet 5 = .ok (.aload_n 0, 1) := by decide +kernel
theorem dX9_toldSet_6 : decode cX9_toldSet 6 = .ok (.getfield 20, 3) := by decide +kernel
theorem dX9_toldSet_9 : decode cX9_toldSet 9 = .ok (.sipush 134, 3) := by decide +kernel
theorem dX9_toldSet_12 : decode cX9_toldSet 12 = .ok (.iaload, 1) := by decide +kernel
theorem dX9_toldSet_13 : decode cX9_toldSet 13 = .ok (.if_icmp .ge 25, 3) := by decide +kernel
theorem dX9_toldSet_16 : decode cX9_toldSet 16 = .ok (.iload_n 1, 1) := by decide +kernel
theorem dX9_toldSet_17 : decode cX9_toldSet 17 = .ok (.iconst 1, 1) := by decide +kernel
theorem dX9_toldSet_18 : decode cX9_toldSet 18 = .ok (.aload_n 0, 1) := by decide +kernel
theorem dX9_toldSet_19 : decode cX9_toldSet 19 = .ok (.getfield 20, 3) := by decide +kernel
theorem dX9_toldSet_22 : decode cX9_toldSet 22 = .ok (.bipush 43, 2) := by decide +kernel
theorem dX9_toldSet_24 : decode cX9_toldSet 24 = .ok (.iconst 3, 1) := by decide +kernel
theorem dX9_toldSet_25 : decode cX9_toldSet 25 = .ok (.iload_n 2, 1) := by decide +kernel
theorem dX9_toldSet_26 : decode cX9_toldSet 26 = .ok (.imul, 1) := by decide +kernel
theorem dX9_toldSet_27 : decode cX9_toldSet 27 = .ok (.iadd, 1) := by decide +kernel
theorem dX9_toldSet_28 : decode cX9_toldSet 28 = .ok (.iaload, 1) := by decide +kernel
theorem dX9_toldSet_29 : decode cX9_toldSet 29 = .ok (.ishl, 1) := by decide +kernel
theorem dX9_toldSet_30 : decode cX9_toldSet 30 = .ok (.ior, 1) := by decide +kernel
theorem dX9_toldSet_31 : decode cX9_toldSet 31 = .ok (.istore_n 1, 1) := by decide +kernel
theorem dX9_toldSet_32 : decode cX9_toldSet 32 = .ok (.iinc 2 1, 3) := by decide +kernel
theorem dX9_toldSet_35 : decode cX9_toldSet 35 = .ok (.goto (-31), 3) := by decide +kernel
theorem dX9_toldSet_38 : decode cX9_toldSet 38 = .ok (.iload_n 1, 1) := by decide +kernel
theorem dX9_toldSet_39 : decode cX9_toldSet 39 = .ok (.ireturn, 1) := by decide +kernel
theorem dX9_lastYear_0 : decode cX9_lastYear 0 = .ok (.aload_n 0, 1) := by decide +kernel
theorem dX9_lastYear_1 : decode cX9_lastYear 1 = .ok (.getfield 20, 3) := by decide +kernel
theorem dX9_lastYear_4 : decode cX9_lastYear 4 = .ok (.sipush 134, 3) := by decide +kernel
theorem dX9_lastYear_7 : decode cX9_lastYear 7 = .ok (.iaload, 1) := by decide +kernel
theorem dX9_lastYear_8 : decode cX9_lastYear 8 = .ok (.ifCond .ne 8, 3) := by decide +kernel
theorem dX9_lastYear_11 : decode cX9_lastYear 11 = .ok (.ldc 146, 2) := by decide +kernel
theorem dX9_lastYear_13 : decode cX9_lastYear 13 = .ok (.goto 23, 3) := by decide +kernel
theorem dX9_lastYear_16 : decode cX9_lastYear 16 = .ok (.aload_n 0, 1) := by decide +kernel
theorem dX9_lastYear_17 : decode cX9_lastYear 17 = .ok (.getfield 20, 3) := by decide +kernel
theorem dX9_lastYear_20 : decode cX9_lastYear 20 = .ok (.bipush 43, 2) := by decide +kernel
theorem dX9_lastYear_22 : decode cX9_lastYear 22 = .ok (.iconst 3, 1) := by decide +kernel
theorem dX9_lastYear_23 : decode cX9_lastYear 23 = .ok (.aload_n 0, 1) := by decide +kernel
theorem dX9_lastYear_24 : decode cX9_lastYear 24 = .ok (.getfield 20, 3) := by decide +kernel
theorem dX9_lastYear_27 : decode cX9_lastYear 27 = .ok (.sipush 134, 3) := by decide +kernel
theorem dX9_lastYear_30 : decode cX9_lastYear 30 = .ok (.iaload, 1) := by decide +kernel
theorem dX9_lastYear_31 : decode cX9_lastYear 31 = .ok (.imul, 1) := by decide +kernel
theorem dX9_lastYear_32 : decode cX9_lastYear 32 = .ok (.iadd, 1) := by decide +kernel
theorem dX9_lastYear_33 : decode cX9_lastYear 33 = .ok (.iconst 2, 1) := by decide +kernel
theorem dX9_lastYear_34 : decode cX9_lastYear 34 = .ok (.isub, 1) := by decide +kernel
theorem dX9_lastYear_35 : decode cX9_lastYear 35 = .ok (.iaload, 1) := by decide +kernel
theorem dX9_lastYear_36 : decode cX9_lastYear 36 = .ok (.ireturn, 1) := by decide +kernel
theorem dX9_lastTeller_0 : decode cX9_lastTeller 0 = .ok (.aload_n 0, 1) := by decide +kernel
theorem dX9_lastTeller_1 : decode cX9_lastTeller 1 = .ok (.getfield 20, 3) := by decide +kernel
theorem dX9_lastTeller_4 : decode cX9_lastTeller 4 = .ok (.sipush 134, 3) := by decide +kernel
theorem dX9_lastTeller_7 : decode cX9_lastTeller 7 = .ok (.iaload, 1) := by decide +kernel
theorem dX9_lastTeller_8 : decode cX9_lastTeller 8 = .ok (.ifCond .ne 7, 3) := by decide +kernel
theorem dX9_lastTeller_11 : decode cX9_lastTeller 11 = .ok (.iconst 4, 1) := by decide +kernel
theorem dX9_lastTeller_12 : decode cX9_lastTeller 12 = .ok (.goto 23, 3) := by decide +kernel
theorem dX9_lastTeller_15 : decode cX9_lastTeller 15 = .ok (.aload_n 0, 1) := by decide +kernel
theorem dX9_lastTeller_16 : decode cX9_lastTeller 16 = .ok (.getfield 20, 3) := by decide +kernel
theorem dX9_lastTeller_19 : decode cX9_lastTeller 19 = .ok (.bipush 43, 2) := by decide +kernel
theorem dX9_lastTeller_21 : decode cX9_lastTeller 21 = .ok (.iconst 3, 1) := by decide +kernel
theorem dX9_lastTeller_22 : decode cX9_lastTeller 22 = .ok (.aload_n 0, 1) := by decide +kernel
theorem dX9_lastTeller_23 : decode cX9_lastTeller 23 = .ok (.getfield 20, 3) := by decide +kernel
theorem dX9_lastTeller_26 : decode cX9_lastTeller 26 = .ok (.sipush 134, 3) := by decide +kernel
theorem dX9_lastTeller_29 : decode cX9_lastTeller 29 = .ok (.iaload, 1) := by decide +kernel
theorem dX9_lastTeller_30 : decode cX9_lastTeller 30 = .ok (.imul, 1) := by decide +kernel
theorem dX9_lastTeller_31 : decode cX9_lastTeller 31 = .ok (.iadd, 1) := by decide +kernel
theorem dX9_lastTeller_32 : decode cX9_lastTeller 32 = .ok (.iconst 1, 1) := by decide +kernel
theorem dX9_lastTeller_33 : decode cX9_lastTeller 33 = .ok (.isub, 1) := by decide +kernel
theorem dX9_lastTeller_34 : decode cX9_lastTeller 34 = .ok (.iaload, 1) := by decide +kernel
theorem dX9_lastTeller_35 : decode cX9_lastTeller 35 = .ok (.ireturn, 1) := by decide +kernel
theorem dX9_yearBehind_0 : decode cX9_yearBehind 0 = .ok (.aload_n 0, 1) := by decide +kernel
theorem dX9_yearBehind_1 : decode cX9_yearBehind 1 = .ok (.iload_n 1, 1) := by decide +kernel
theorem dX9_yearBehind_2 : decode cX9_yearBehind 2 = .ok (.iconst 1, 1) := by decide +kernel
theorem dX9_yearBehind_3 : decode cX9_yearBehind 3 = .ok (.invokevirtual 121, 3) := by decide +kernel
theorem dX9_yearBehind_6 : decode cX9_yearBehind 6 = .ok (.iload_n 2, 1) := by decide +kernel
theorem dX9_yearBehind_7 : decode cX9_yearBehind 7 = .ok (.aload_n 0, 1) := by decide +kernel
theorem dX9_yearBehind_8 : decode cX9_yearBehind 8 = .ok (.getfield 58, 3) := by decide +kernel
theorem dX9_yearBehind_11 : decode cX9_yearBehind 11 = .ok (.iload_n 1, 1) := by decide +kernel
theorem dX9_yearBehind_12 : decode cX9_yearBehind 12 = .ok (.iaload, 1) := by decide +kernel
theorem dX9_yearBehind_13 : decode cX9_yearBehind 13 = .ok (.isub, 1) := by decide +kernel
theorem dX9_yearBehind_14 : decode cX9_yearBehind 14 = .ok (.invokestatic 294, 3) := by decide +kernel
theorem dX9_yearBehind_17 : decode cX9_yearBehind 17 = .ok (.ireturn, 1) := by decide +kernel
theorem dX9_fits_0 : decode cX9_fits 0 = .ok (.aload_n 0, 1) := by decide +kernel
theorem dX9_fits_1 : decode cX9_fits 1 = .ok (.iload_n 1, 1) := by decide +kernel
theorem dX9_fits_2 : decode cX9_fits 2 = .ok (.iload_n 2, 1) := by decide +kernel
theorem dX9_fits_3 : decode cX9_fits 3 = .ok (.invokevirtual 297, 3) := by decide +kernel
theorem dX9_fits_6 : decode cX9_fits 6 = .ok (.aload_n 0, 1) := by decide +kernel
theorem dX9_fits_7 : decode cX9_fits 7 = .ok (.iload_n 1, 1) := by decide +kernel
theorem dX9_fits_8 : decode cX9_fits 8 = .ok (.iconst 0, 1) := by decide +kernel
theorem dX9_fits_9 : decode cX9_fits 9 = .ok (.invokevirtual 121, 3) := by decide +kernel
theorem dX9_fits_12 : decode cX9_fits 12 = .ok (.if_icmp .lt 7, 3) := by decide +kernel
theorem dX9_fits_15 : decode cX9_fits 15 = .ok (.iconst 1, 1) := by decide +kernel
theorem dX9_fits_16 : decode cX9_fits 16 = .ok (.goto 4, 3) := by decide +kernel
theorem dX9_fits_19 : decode cX9_fits 19 = .ok (.iconst 0, 1) := by decide +kernel
theorem dX9_fits_20 : decode cX9_fits 20 = .ok (.ireturn, 1) := by decide +kernel
theorem dX9_canNext_0 : decode cX9_canNext 0 = .ok (.iload_n 3, 1) := by decide +kernel
theorem dX9_canNext_1 : decode cX9_canNext 1 = .ok (.iload_n 1, 1) := by decide +kernel
theorem dX9_canNext_2 : decode cX9_canNext 2 = .ok (.invokestatic 269, 3) := by decide +kernel
theorem dX9_canNext_5 : decode cX9_canNext 5 = .ok (.ifCond .ne 40, 3) := by decide +kernel
theorem dX9_canNext_8 : decode cX9_canNext 8 = .ok (.aload_n 0, 1) := by decide +kernel
theorem dX9_canNext_9 : decode cX9_canNext 9 = .ok (.getfield 61, 3) := by decide +kernel
theorem dX9_canNext_12 : decode cX9_canNext 12 = .ok (.iload_n 1, 1) := by decide +kernel
theorem dX9_canNext_13 : decode cX9_canNext 13 = .ok (.iaload, 1) := by decide +kernel
theorem dX9_canNext_14 : decode cX9_canNext 14 = .ok (.iload_n 2, 1) := by decide +kernel
theorem dX9_canNext_15 : decode cX9_canNext 15 = .ok (.invokestatic 269, 3) := by decide +kernel
theorem dX9_canNext_18 : decode cX9_canNext 18 = .ok (.ifCond .eq 27, 3) := by decide +kernel
theorem dX9_canNext_21 : decode cX9_canNext 21 = .ok (.aload_n 0, 1) := by decide +kernel
theorem dX9_canNext_22 : decode cX9_canNext 22 = .ok (.iload 5, 2) := by decide +kernel
theorem dX9_canNext_24 : decode cX9_canNext 24 = .ok (.iload_n 2, 1) := by decide +kernel
theorem dX9_canNext_25 : decode cX9_canNext 25 = .ok (.invokevirtual 288, 3) := by decide +kernel
theorem dX9_canNext_28 : decode cX9_canNext 28 = .ok (.ifCond .eq 17, 3) := by decide +kernel
theorem dX9_canNext_31 : decode cX9_canNext 31 = .ok (.aload_n 0, 1) := by decide +kernel
theorem dX9_canNext_32 : decode cX9_canNext 32 = .ok (.iload_n 1, 1) := by decide +kernel
theorem dX9_canNext_33 : decode cX9_canNext 33 = .ok (.iload 4, 2) := by decide +kernel
theorem dX9_canNext_35 : decode cX9_canNext 35 = .ok (.invokevirtual 300, 3) := by decide +kernel
theorem dX9_canNext_38 : decode cX9_canNext 38 = .ok (.ifCond .eq 7, 3) := by decide +kernel
theorem dX9_canNext_41 : decode cX9_canNext 41 = .ok (.iconst 1, 1) := by decide +kernel
theorem dX9_canNext_42 : decode cX9_canNext 42 = .ok (.goto 4, 3) := by decide +kernel
theorem dX9_canNext_45 : decode cX9_canNext 45 = .ok (.iconst 0, 1) := by decide +kernel
theorem dX9_canNext_46 : decode cX9_canNext 46 = .ok (.ireturn, 1) := by decide +kernel
theorem dX9_tell_0 : decode cX9_tell 0 = .ok (.aload_n 0, 1) := by decide +kernel
theorem dX9_tell_1 : decode cX9_tell 1 = .ok (.iload_n 2, 1) := by decide +kernel
theorem dX9_tell_2 : decode cX9_tell 2 = .ok (.invokevirtual 282, 3) := by decide +kernel
theorem dX9_tell_5 : decode cX9_tell 5 = .ok (.ifCond .ne 9, 3) := by decide +kernel
theorem dX9_tell_8 : decode cX9_tell 8 = .ok (.aload_n 0, 1) := by decide +kernel
theorem dX9_tell_9 : decode cX9_tell 9 = .ok (.iconst (-1), 1) := by decide +kernel
theorem dX9_tell_10 : decode cX9_tell 10 = .ok (.invokevirtual 98, 3) := by decide +kernel
theorem dX9_tell_13 : decode cX9_tell 13 = .ok (.ireturn, 1) := by decide +kernel
theorem dX9_tell_14 : decode cX9_tell 14 = .ok (.aload_n 0, 1) := by decide +kernel
theorem dX9_tell_15 : decode cX9_tell 15 = .ok (.iload_n 1, 1) := by decide +kernel
theorem dX9_tell_16 : decode cX9_tell 16 = .ok (.invokevirtual 117, 3) := by decide +kernel
theorem dX9_tell_19 : decode cX9_tell 19 = .ok (.ifCond .ne 10, 3) := by decide +kernel
theorem dX9_tell_22 : decode cX9_tell 22 = .ok (.aload_n 0, 1) := by decide +kernel
theorem dX9_tell_23 : decode cX9_tell 23 = .ok (.bipush (-2), 2) := by decide +kernel
theorem dX9_tell_25 : decode cX9_tell 25 = .ok (.invokevirtual 98, 3) := by decide +kernel
theorem dX9_tell_28 : decode cX9_tell 28 = .ok (.ireturn, 1) := by decide +kernel
theorem dX9_tell_29 : decode cX9_tell 29 = .ok (.aload_n 0, 1) := by decide +kernel
theorem dX9_tell_30 : decode cX9_tell 30 = .ok (.invokevirtual 279, 3) := by decide +kernel
theorem dX9_tell_33 : decode cX9_tell 33 = .ok (.aload_n 0, 1) := by decide +kernel
theorem dX9_tell_34 : decode cX9_tell 34 = .ok (.iload_n 1, 1) := by decide +kernel
theorem dX9_tell_35 : decode cX9_tell 35 = .ok (.iload_n 2, 1) := by decide +kernel
theorem dX9_tell_36 : decode cX9_tell 36 = .ok (.aload_n 0, 1) := by decide +kernel
theorem dX9_tell_37 : decode cX9_tell 37 = .ok (.invokevirtual 303, 3) := by decide +kernel
theorem dX9_tell_40 : decode cX9_tell 40 = .ok (.aload_n 0, 1) := by decide +kernel
theorem dX9_tell_41 : decode cX9_tell 41 = .ok (.invokevirtual 306, 3) := by decide +kernel
theorem dX9_tell_44 : decode cX9_tell 44 = .ok (.aload_n 0, 1) := by decide +kernel
theorem dX9_tell_45 : decode cX9_tell 45 = .ok (.invokevirtual 309, 3) := by decide +kernel
theorem dX9_tell_48 : decode cX9_tell 48 = .ok (.invokevirtual 312, 3) := by decide +kernel
theorem dX9_tell_51 : decode cX9_tell 51 = .ok (.ifCond .ne 10, 3) := by decide +kernel
theorem dX9_tell_54 : decode cX9_tell 54 = .ok (.aload_n 0, 1) := by decide +kernel
theorem dX9_tell_55 : decode cX9_tell 55 = .ok (.bipush (-3), 2) := by decide +kernel
theorem dX9_tell_57 : decode cX9_tell 57 = .ok (.invokevirtual 98, 3) := by decide +kernel
theorem dX9_tell_60 : decode cX9_tell 60 = .ok (.ireturn, 1) := by decide +kernel
theorem dX9_tell_61 : decode cX9_tell 61 = .ok (.aload_n 0, 1) := by decide +kernel
theorem dX9_tell_62 : decode cX9_tell 62 = .ok (.iload_n 1, 1) := by decide +kernel
theorem dX9_tell_63 : decode cX9_tell 63 = .ok (.aload_n 0, 1) := by decide +kernel
theorem dX9_tell_64 : decode cX9_tell 64 = .ok (.invokevirtual 306, 3) := by decide +kernel
theorem dX9_tell_67 : decode cX9_tell 67 = .ok (.invokevirtual 297, 3) := by decide +kernel
theorem dX9_tell_70 : decode cX9_tell 70 = .ok (.istore_n 3, 1) := by decide +kernel
theorem dX9_tell_71 : decode cX9_tell 71 = .ok (.bipush 43, 2) := by decide +kernel
theorem dX9_tell_73 : decode cX9_tell 73 = .ok (.iconst 3, 1) := by decide +kernel
theorem dX9_tell_74 : decode cX9_tell 74 = .ok (.aload_n 0, 1) := by decide +kernel
theorem dX9_tell_75 : decode cX9_tell 75 = .ok (.getfield 20, 3) := by decide +kernel
theorem dX9_tell_78 : decode cX9_tell 78 = .ok (.sipush 134, 3) := by decide +kernel
theorem dX9_tell_81 : decode cX9_tell 81 = .ok (.iaload, 1) := by decide +kernel
theorem dX9_tell_82 : decode cX9_tell 82 = .ok (.imul, 1) := by decide +kernel
theorem dX9_tell_83 : decode cX9_tell 83 = .ok (.iadd, 1) := by decide +kernel
theorem dX9_tell_84 : decode cX9_tell 84 = .ok (.istore 4, 2) := by decide +kernel
theorem dX9_tell_86 : decode cX9_tell 86 = .ok (.aload_n 0, 1) := by decide +kernel
theorem dX9_tell_87 : decode cX9_tell 87 = .ok (.getfield 20, 3) := by decide +kernel
theorem dX9_tell_90 : decode cX9_tell 90 = .ok (.iload 4, 2) := by decide +kernel
theorem dX9_tell_92 : decode cX9_tell 92 = .ok (.iload_n 1, 1) := by decide +kernel
theorem dX9_tell_93 : decode cX9_tell 93 = .ok (.iastore, 1) := by decide +kernel
theorem dX9_tell_94 : decode cX9_tell 94 = .ok (.aload_n 0, 1) := by decide +kernel
theorem dX9_tell_95 : decode cX9_tell 95 = .ok (.getfield 20, 3) := by decide +kernel
theorem dX9_tell_98 : decode cX9_tell 98 = .ok (.iload 4, 2) := by decide +kernel
theorem dX9_tell_100 : decode cX9_tell 100 = .ok (.iconst 1, 1) := by decide +kernel
theorem dX9_tell_101 : decode cX9_tell 101 = .ok (.iadd, 1) := by decide +kernel
theorem dX9_tell_102 : decode cX9_tell 102 = .ok (.iload_n 3, 1) := by decide +kernel
theorem dX9_tell_103 : decode cX9_tell 103 = .ok (.iastore, 1) := by decide +kernel
theorem dX9_tell_104 : decode cX9_tell 104 = .ok (.aload_n 0, 1) := by decide +kernel
theorem dX9_tell_105 : decode cX9_tell 105 = .ok (.getfield 20, 3) := by decide +kernel
theorem dX9_tell_108 : decode cX9_tell 108 = .ok (.iload 4, 2) := by decide +kernel
theorem dX9_tell_110 : decode cX9_tell 110 = .ok (.iconst 2, 1) := by decide +kernel
theorem dX9_tell_111 : decode cX9_tell 111 = .ok (.iadd, 1) := by decide +kernel
theorem dX9_tell_112 : decode cX9_tell 112 = .ok (.iload_n 2, 1) := by decide +kernel
theorem dX9_tell_113 : decode cX9_tell 113 = .ok (.iastore, 1) := by decide +kernel
theorem dX9_tell_114 : decode cX9_tell 114 = .ok (.aload_n 0, 1) := by decide +kernel
theorem dX9_tell_115 : decode cX9_tell 115 = .ok (.getfield 20, 3) := by decide +kernel
theorem dX9_tell_118 : decode cX9_tell 118 = .ok (.sipush 134, 3) := by decide +kernel
theorem dX9_tell_121 : decode cX9_tell 121 = .ok (.dup2, 1) := by decide +kernel
theorem dX9_tell_122 : decode cX9_tell 122 = .ok (.iaload, 1) := by decide +kernel
theorem dX9_tell_123 : decode cX9_tell 123 = .ok (.iconst 1, 1) := by decide +kernel
theorem dX9_tell_124 : decode cX9_tell 124 = .ok (.iadd, 1) := by decide +kernel
theorem dX9_tell_125 : decode cX9_tell 125 = .ok (.iastore, 1) := by decide +kernel
theorem dX9_tell_126 : decode cX9_tell 126 = .ok (.aload_n 0, 1) := by decide +kernel
theorem dX9_tell_127 : decode cX9_tell 127 = .ok (.iload_n 3, 1) := by decide +kernel
theorem dX9_tell_128 : decode cX9_tell 128 = .ok (.invokevirtual 102, 3) := by decide +kernel
theorem dX9_tell_131 : decode cX9_tell 131 = .ok (.ireturn, 1) := by decide +kernel
theorem dX9_hush_0 : decode cX9_hush 0 = .ok (.aload_n 0, 1) := by decide +kernel
theorem dX9_hush_1 : decode cX9_hush 1 = .ok (.getfield 20, 3) := by decide +kernel
theorem dX9_hush_4 : decode cX9_hush 4 = .ok (.sipush 134, 3) := by decide +kernel
theorem dX9_hush_7 : decode cX9_hush 7 = .ok (.iaload, 1) := by decide +kernel
theorem dX9_hush_8 : decode cX9_hush 8 = .ok (.istore_n 1, 1) := by decide +kernel
theorem dX9_hush_9 : decode cX9_hush 9 = .ok (.aload_n 0, 1) := by decide +kernel
theorem dX9_hush_10 : decode cX9_hush 10 = .ok (.getfield 20, 3) := by decide +kernel
theorem dX9_hush_13 : decode cX9_hush 13 = .ok (.sipush 134, 3) := by decide +kernel
theorem dX9_hush_16 : decode cX9_hush 16 = .ok (.iconst 0, 1) := by decide +kernel
theorem dX9_hush_17 : decode cX9_hush 17 = .ok (.iastore, 1) := by decide +kernel
theorem dX9_hush_18 : decode cX9_hush 18 = .ok (.aload_n 0, 1) := by decide +kernel
theorem dX9_hush_19 : decode cX9_hush 19 = .ok (.dup, 1) := by decide +kernel
theorem dX9_hush_20 : decode cX9_hush 20 = .ok (.getfield 11, 3) := by decide +kernel
theorem dX9_hush_23 : decode cX9_hush 23 = .ok (.iconst 1, 1) := by decide +kernel
theorem dX9_hush_24 : decode cX9_hush 24 = .ok (.iadd, 1) := by decide +kernel
theorem dX9_hush_25 : decode cX9_hush 25 = .ok (.putfield 11, 3) := by decide +kernel
theorem dX9_hush_28 : decode cX9_hush 28 = .ok (.iload_n 1, 1) := by decide +kernel
theorem dX9_hush_29 : decode cX9_hush 29 = .ok (.ireturn, 1) := by decide +kernel
theorem dX9_heard_0 : decode cX9_heard 0 = .ok (.iload_n 1, 1) := by decide +kernel
theorem dX9_heard_1 : decode cX9_heard 1 = .ok (.iconst 0, 1) := by decide +kernel
theorem dX9_heard_2 : decode cX9_heard 2 = .ok (.aload_n 0, 1) := by decide +kernel
theorem dX9_heard_3 : decode cX9_heard 3 = .ok (.getfield 20, 3) := by decide +kernel
theorem dX9_heard_6 : decode cX9_heard 6 = .ok (.sipush 134, 3) := by decide +kernel
theorem dX9_heard_9 : decode cX9_heard 9 = .ok (.iaload, 1) := by decide +kernel
theorem dX9_heard_10 : decode cX9_heard 10 = .ok (.iconst 1, 1) := by decide +kernel
theorem dX9_heard_11 : decode cX9_heard 11 = .ok (.isub, 1) := by decide +kernel
theorem dX9_heard_12 : decode cX9_heard 12 = .ok (.invokestatic 94, 3) := by decide +kernel
theorem dX9_heard_15 : decode cX9_heard 15 = .ok (.ifCond .eq 28, 3) := by decide +kernel
theorem dX9_heard_18 : decode cX9_heard 18 = .ok (.iload_n 2, 1) := by decide +kernel
theorem dX9_heard_19 : decode cX9_heard 19 = .ok (.iconst 0, 1) := by decide +kernel
theorem dX9_heard_20 : decode cX9_heard 20 = .ok (.iconst 2, 1) := by decide +kernel
theorem dX9_heard_21 : decode cX9_heard 21 = .ok (.invokestatic 94, 3) := by decide +kernel
theorem dX9_heard_24 : decode cX9_heard 24 = .ok (.ifCond .eq 19, 3) := by decide +kernel
theorem dX9_heard_27 : decode cX9_heard 27 = .ok (.aload_n 0, 1) := by decide +kernel
theorem dX9_heard_28 : decode cX9_heard 28 = .ok (.getfield 20, 3) := by decide +kernel
theorem dX9_heard_31 : decode cX9_heard 31 = .ok (.bipush 43, 2) := by decide +kernel
theorem dX9_heard_33 : decode cX9_heard 33 = .ok (.iconst 3, 1) := by decide +kernel
theorem dX9_heard_34 : decode cX9_heard 34 = .ok (.iload_n 1, 1) := by decide +kernel
theorem dX9_heard_35 : decode cX9_heard 35 = .ok (.imul, 1) := by decide +kernel
theorem dX9_heard_36 : decode cX9_heard 36 = .ok (.iadd, 1) := by decide +kernel
theorem dX9_heard_37 : decode cX9_heard 37 = .ok (.iload_n 2, 1) := by decide +kernel
theorem dX9_heard_38 : decode cX9_heard 38 = .ok (.iadd, 1) := by decide +kernel
theorem dX9_heard_39 : decode cX9_heard 39 = .ok (.iaload, 1) := by decide +kernel
theorem dX9_heard_40 : decode cX9_heard 40 = .ok (.goto 4, 3) := by decide +kernel
theorem dX9_heard_43 : decode cX9_heard 43 = .ok (.iconst (-1), 1) := by decide +kernel
theorem dX9_heard_44 : decode cX9_heard 44 = .ok (.ireturn, 1) := by decide +kernel
theorem dX9_open_0 : decode cX9_open 0 = .ok (.aload_n 0, 1) := by decide +kernel
theorem dX9_open_1 : decode cX9_open 1 = .ok (.invokevirtual 279, 3) := by decide +kernel
theorem dX9_open_4 : decode cX9_open 4 = .ok (.iconst 0, 1) := by decide +kernel
theorem dX9_open_5 : decode cX9_open 5 = .ok (.istore_n 1, 1) := by decide +kernel
theorem dX9_open_6 : decode cX9_open 6 = .ok (.iconst 0, 1) := by decide +kernel
theorem dX9_open_7 : decode cX9_open 7 = .ok (.istore_n 2, 1) := by decide +kernel
theorem dX9_open_8 : decode cX9_open 8 = .ok (.iload_n 2, 1) := by decide +kernel
theorem dX9_open_9 : decode cX9_open 9 = .ok (.aload_n 0, 1) := by decide +kernel
theorem dX9_open_10 : decode cX9_open 10 = .ok (.invokevirtual 105, 3) := by decide +kernel
theorem dX9_open_13 : decode cX9_open 13 = .ok (.if_icmp .ge 49, 3) := by decide +kernel
theorem dX9_open_16 : decode cX9_open 16 = .ok (.iconst 0, 1) := by decide +kernel
theorem dX9_open_17 : decode cX9_open 17 = .ok (.istore_n 3, 1) := by decide +kernel
theorem dX9_open_18 : decode cX9_open 18 = .ok (.iload_n 3, 1) := by decide +kernel
theorem dX9_open_19 : decode cX9_open 19 = .ok (.iconst 4, 1) := by decide +kernel
theorem dX9_open_20 : decode cX9_open 20 = .ok (.if_icmp .ge 36, 3) := by decide +kernel
theorem dX9_open_23 : decode cX9_open 23 = .ok (.aload_n 0, 1) := by decide +kernel
theorem dX9_open_24 : decode cX9_open 24 = .ok (.iload_n 2, 1) := by decide +kernel
theorem dX9_open_25 : decode cX9_open 25 = .ok (.iload_n 3, 1) := by decide +kernel
theorem dX9_open_26 : decode cX9_open 26 = .ok (.aload_n 0, 1) := by decide +kernel
theorem dX9_open_27 : decode cX9_open 27 = .ok (.invokevirtual 303, 3) := by decide +kernel
theorem dX9_open_30 : decode cX9_open 30 = .ok (.aload_n 0, 1) := by decide +kernel
theorem dX9_open_31 : decode cX9_open 31 = .ok (.invokevirtual 306, 3) := by decide +kernel
theorem dX9_open_34 : decode cX9_open 34 = .ok (.aload_n 0, 1) := by decide +kernel
theorem dX9_open_35 : decode cX9_open 35 = .ok (.invokevirtual 309, 3) := by decide +kernel
theorem dX9_open_38 : decode cX9_open 38 = .ok (.invokevirtual 312, 3) := by decide +kernel
theorem dX9_open_41 : decode cX9_open 41 = .ok (.ifCond .eq 9, 3) := by decide +kernel
theorem dX9_open_44 : decode cX9_open 44 = .ok (.iload_n 1, 1) := by decide +kernel
theorem dX9_open_45 : decode cX9_open 45 = .ok (.iconst 1, 1) := by decide +kernel
theorem dX9_open_46 : decode cX9_open 46 = .ok (.iload_n 2, 1) := by decide +kernel
theorem dX9_open_47 : decode cX9_open 47 = .ok (.ishl, 1) := by decide +kernel
theorem dX9_open_48 : decode cX9_open 48 = .ok (.ior, 1) := by decide +kernel
theorem dX9_open_49 : decode cX9_open 49 = .ok (.istore_n 1, 1) := by decide +kernel
theorem dX9_open_50 : decode cX9_open 50 = .ok (.iinc 3 1, 3) := by decide +kernel
theorem dX9_open_53 : decode cX9_open 53 = .ok (.goto (-35), 3) := by decide +kernel
theorem dX9_open_56 : decode cX9_open 56 = .ok (.iinc 2 1, 3) := by decide +kernel
theorem dX9_open_59 : decode cX9_open 59 = .ok (.goto (-51), 3) := by decide +kernel
theorem dX9_open_62 : decode cX9_open 62 = .ok (.iload_n 1, 1) := by decide +kernel
theorem dX9_open_63 : decode cX9_open 63 = .ok (.ireturn, 1) := by decide +kernel
theorem dX9_isSet_0 : decode cX9_isSet 0 = .ok (.iload_n 1, 1) := by decide +kernel
theorem dX9_isSet_1 : decode cX9_isSet 1 = .ok (.iconst 0, 1) := by decide +kernel
theorem dX9_isSet_2 : decode cX9_isSet 2 = .ok (.iconst 1, 1) := by decide +kernel
theorem dX9_isSet_3 : decode cX9_isSet 3 = .ok (.aload_n 0, 1) := by decide +kernel
theorem dX9_isSet_4 : decode cX9_isSet 4 = .ok (.invokevirtual 105, 3) := by decide +kernel
theorem dX9_isSet_7 : decode cX9_isSet 7 = .ok (.ishl, 1) := by decide +kernel
theorem dX9_isSet_8 : decode cX9_isSet 8 = .ok (.iconst 1, 1) := by decide +kernel
theorem dX9_isSet_9 : decode cX9_isSet 9 = .ok (.isub, 1) := by decide +kernel
theorem dX9_isSet_10 : decode cX9_isSet 10 = .ok (.invokestatic 94, 3) := by decide +kernel
theorem dX9_isSet_13 : decode cX9_isSet 13 = .ok (.ifCond .eq 16, 3) := by decide +kernel
theorem dX9_isSet_16 : decode cX9_isSet 16 = .ok (.iload_n 1, 1) := by decide +kernel
theorem dX9_isSet_17 : decode cX9_isSet 17 = .ok (.aload_n 0, 1) := by decide +kernel
theorem dX9_isSet_18 : decode cX9_isSet 18 = .ok (.invokevirtual 303, 3) := by decide +kernel
theorem dX9_isSet_21 : decode cX9_isSet 21 = .ok (.iand, 1) := by decide +kernel
theorem dX9_isSet_22 : decode cX9_isSet 22 = .ok (.ifCond .ne 7, 3) := by decide +kernel
theorem dX9_isSet_25 : decode cX9_isSet 25 = .ok (.iconst 1, 1) := by decide +kernel
theorem dX9_isSet_26 : decode cX9_isSet 26 = .ok (.goto 4, 3) := by decide +kernel
theorem dX9_isSet_29 : decode cX9_isSet 29 = .ok (.iconst 0, 1) := by decide +kernel
theorem dX9_isSet_30 : decode cX9_isSet 30 = .ok (.ireturn, 1) := by decide +kernel
theorem dX9_goesOn_0 : decode cX9_goesOn 0 = .ok (.aload_n 0, 1) := by decide +kernel
theorem dX9_goesOn_1 : decode cX9_goesOn 1 = .ok (.getfield 67, 3) := by decide +kernel
theorem dX9_goesOn_4 : decode cX9_goesOn 4 = .ok (.iconst 5, 1) := by decide +kernel
theorem dX9_goesOn_5 : decode cX9_goesOn 5 = .ok (.iload_n 1, 1) := by decide +kernel
theorem dX9_goesOn_6 : decode cX9_goesOn 6 = .ok (.imul, 1) := by decide +kernel
theorem dX9_goesOn_7 : decode cX9_goesOn 7 = .ok (.aload_n 0, 1) := by decide +kernel
theorem dX9_goesOn_8 : decode cX9_goesOn 8 = .ok (.invokevirtual 309, 3) := by decide +kernel
theorem dX9_goesOn_11 : decode cX9_goesOn 11 = .ok (.iadd, 1) := by decide +kernel
theorem dX9_goesOn_12 : decode cX9_goesOn 12 = .ok (.iaload, 1) := by decide +kernel
theorem dX9_goesOn_13 : decode cX9_goesOn 13 = .ok (.aload_n 0, 1) := by decide +kernel
theorem dX9_goesOn_14 : decode cX9_goesOn 14 = .ok (.invokevirtual 306, 3) := by decide +kernel
theorem dX9_goesOn_17 : decode cX9_goesOn 17 = .ok (.if_icmp .gt 25, 3) := by decide +kernel
theorem dX9_goesOn_20 : decode cX9_goesOn 20 = .ok (.aload_n 0, 1) := by decide +kernel
theorem dX9_goesOn_21 : decode cX9_goesOn 21 = .ok (.getfield 67, 3) := by decide +kernel
theorem dX9_goesOn_24 : decode cX9_goesOn 24 = .ok (.iconst 5, 1) := by decide +kernel
theorem dX9_goesOn_25 : decode cX9_goesOn 25 = .ok (.iload_n 1, 1) := by decide +kernel
theorem dX9_goesOn_26 : decode cX9_goesOn 26 = .ok (.imul, 1) := by decide +kernel
theorem dX9_goesOn_27 : decode cX9_goesOn 27 = .ok (.aload_n 0, 1) := by decide +kernel
theorem dX9_goesOn_28 : decode cX9_goesOn 28 = .ok (.invokevirtual 309, 3) := by decide +kernel
theorem dX9_goesOn_31 : decode cX9_goesOn 31 = .ok (.iadd, 1) := by decide +kernel
theorem dX9_goesOn_32 : decode cX9_goesOn 32 = .ok (.iaload, 1) := by decide +kernel
theorem dX9_goesOn_33 : decode cX9_goesOn 33 = .ok (.ldc 146, 2) := by decide +kernel
theorem dX9_goesOn_35 : decode cX9_goesOn 35 = .ok (.if_icmp .ge 7, 3) := by decide +kernel
theorem dX9_goesOn_38 : decode cX9_goesOn 38 = .ok (.iconst 1, 1) := by decide +kernel
theorem dX9_goesOn_39 : decode cX9_goesOn 39 = .ok (.goto 4, 3) := by decide +kernel
theorem dX9_goesOn_42 : decode cX9_goesOn 42 = .ok (.iconst 0, 1) := by decide +kernel
theorem dX9_goesOn_43 : decode cX9_goesOn 43 = .ok (.ireturn, 1) := by decide +kernel
theorem dX9_goes_0 : decode cX9_goes 0 = .ok (.aload_n 0, 1) := by decide +kernel
theorem dX9_goes_1 : decode cX9_goes 1 = .ok (.iload_n 1, 1) := by decide +kernel
theorem dX9_goes_2 : decode cX9_goes 2 = .ok (.invokevirtual 316, 3) := by decide +kernel
theorem dX9_goes_5 : decode cX9_goes 5 = .ok (.ifCond .ne 5, 3) := by decide +kernel
theorem dX9_goes_8 : decode cX9_goes 8 = .ok (.iconst (-1), 1) := by decide +kernel
theorem dX9_goes_9 : decode cX9_goes 9 = .ok (.ireturn, 1) := by decide +kernel
theorem dX9_goes_10 : decode cX9_goes 10 = .ok (.aload_n 0, 1) := by decide +kernel
theorem dX9_goes_11 : decode cX9_goes 11 = .ok (.invokevirtual 279, 3) := by decide +kernel
theorem dX9_goes_14 : decode cX9_goes 14 = .ok (.aload_n 0, 1) := by decide +kernel
theorem dX9_goes_15 : decode cX9_goes 15 = .ok (.iload_n 1, 1) := by decide +kernel
theorem dX9_goes_16 : decode cX9_goes 16 = .ok (.invokevirtual 319, 3) := by decide +kernel
theorem dX9_goes_19 : decode cX9_goes 19 = .ok (.ifCond .eq 7, 3) := by decide +kernel
theorem dX9_goes_22 : decode cX9_goes 22 = .ok (.iconst 1, 1) := by decide +kernel
theorem dX9_goes_23 : decode cX9_goes 23 = .ok (.goto 4, 3) := by decide +kernel
theorem dX9_goes_26 : decode cX9_goes 26 = .ok (.iconst 0, 1) := by decide +kernel
theorem dX9_goes_27 : decode cX9_goes 27 = .ok (.ireturn, 1) := by decide +kernel
theorem dX9_worthOf_0 : decode cX9_worthOf 0 = .ok (.iconst 0, 1) := by decide +kernel
theorem dX9_worthOf_1 : decode cX9_worthOf 1 = .ok (.istore_n 2, 1) := by decide +kernel
theorem dX9_worthOf_2 : decode cX9_worthOf 2 = .ok (.iconst 0, 1) := by decide +kernel
theorem dX9_worthOf_3 : decode cX9_worthOf 3 = .ok (.istore_n 3, 1) := by decide +kernel
theorem dX9_worthOf_4 : decode cX9_worthOf 4 = .ok (.iload_n 3, 1) := by decide +kernel
theorem dX9_worthOf_5 : decode cX9_worthOf 5 = .ok (.aload_n 0, 1) := by decide +kernel
theorem dX9_worthOf_6 : decode cX9_worthOf 6 = .ok (.invokevirtual 105, 3) := by decide +kernel
theorem dX9_worthOf_9 : decode cX9_worthOf 9 = .ok (.if_icmp .ge 30, 3) := by decide +kernel
theorem dX9_worthOf_12 : decode cX9_worthOf 12 = .ok (.iload_n 2, 1) := by decide +kernel
theorem dX9_worthOf_13 : decode cX9_worthOf 13 = .ok (.iload_n 1, 1) := by decide +kernel
theorem dX9_worthOf_14 : decode cX9_worthOf 14 = .ok (.iload_n 3, 1) := by decide +kernel
theorem dX9_worthOf_15 : decode cX9_worthOf 15 = .ok (.invokestatic 269, 3) := by decide +kernel
theorem dX9_worthOf_18 : decode cX9_worthOf 18 = .ok (.ifCond .eq 12, 3) := by decide +kernel
theorem dX9_worthOf_21 : decode cX9_worthOf 21 = .ok (.aload_n 0, 1) := by decide +kernel
theorem dX9_worthOf_22 : decode cX9_worthOf 22 = .ok (.getfield 55, 3) := by decide +kernel
theorem dX9_worthOf_25 : decode cX9_worthOf 25 = .ok (.iload_n 3, 1) := by decide +kernel
theorem dX9_worthOf_26 : decode cX9_worthOf 26 = .ok (.iaload, 1) := by decide +kernel
theorem dX9_worthOf_27 : decode cX9_worthOf 27 = .ok (.goto 4, 3) := by decide +kernel
theorem dX9_worthOf_30 : decode cX9_worthOf 30 = .ok (.iconst 0, 1) := by decide +kernel
theorem dX9_worthOf_31 : decode cX9_worthOf 31 = .ok (.iadd, 1) := by decide +kernel
theorem dX9_worthOf_32 : decode cX9_worthOf 32 = .ok (.istore_n 2, 1) := by decide +kernel
theorem dX9_worthOf_33 : decode cX9_worthOf 33 = .ok (.iinc 3 1, 3) := by decide +kernel
theorem dX9_worthOf_36 : decode cX9_worthOf 36 = .ok (.goto (-32), 3) := by decide +kernel
theorem dX9_worthOf_39 : decode cX9_worthOf 39 = .ok (.iload_n 2, 1) := by decide +kernel
theorem dX9_worthOf_40 : decode cX9_worthOf 40 = .ok (.ireturn, 1) := by decide +kernel
theorem dX9_bestSet_0 : decode cX9_bestSet 0 = .ok (.iconst (-1), 1) := by decide +kernel
theorem dX9_bestSet_1 : decode cX9_bestSet 1 = .ok (.istore_n 2, 1) := by decide +kernel
theorem dX9_bestSet_2 : decode cX9_bestSet 2 = .ok (.iconst 0, 1) := by decide +kernel
theorem dX9_bestSet_3 : decode cX9_bestSet 3 = .ok (.istore_n 3, 1) := by decide +kernel
theorem dX9_bestSet_4 : decode cX9_bestSet 4 = .ok (.iload_n 3, 1) := by decide +kernel
theorem dX9_bestSet_5 : decode cX9_bestSet 5 = .ok (.iconst 1, 1) := by decide +kernel
theorem dX9_bestSet_6 : decode cX9_bestSet 6 = .ok (.aload_n 0, 1) := by decide +kernel
theorem dX9_bestSet_7 : decode cX9_bestSet 7 = .ok (.invokevirtual 105, 3) := by decide +kernel
theorem dX9_bestSet_10 : decode cX9_bestSet 10 = .ok (.ishl, 1) := by decide +kernel
theorem dX9_bestSet_11 : decode cX9_bestSet 11 = .ok (.if_icmp .ge 109, 3) := by decide +kernel
theorem dX9_bestSet_14 : decode cX9_bestSet 14 = .ok (.aload_n 0, 1) := by decide +kernel
theorem dX9_bestSet_15 : decode cX9_bestSet 15 = .ok (.iload_n 3, 1) := by decide +kernel
theorem dX9_bestSet_16 : decode cX9_bestSet 16 = .ok (.invokevirtual 316, 3) := by decide +kernel
theorem dX9_bestSet_19 : decode cX9_bestSet 19 = .ok (.ifCond .eq 95, 3) := by decide +kernel
theorem dX9_bestSet_22 : decode cX9_bestSet 22 = .ok (.aload_n 0, 1) := by decide +kernel
theorem dX9_bestSet_23 : decode cX9_bestSet 23 = .ok (.iload_n 3, 1) := by decide +kernel
theorem dX9_bestSet_24 : decode cX9_bestSet 24 = .ok (.invokevirtual 319, 3) := by decide +kernel
theorem dX9_bestSet_27 : decode cX9_bestSet 27 = .ok (.ifCond .ne 6, 3) := by decide +kernel
theorem dX9_bestSet_30 : decode cX9_bestSet 30 = .ok (.goto 84, 3) := by decide +kernel
theorem dX9_bestSet_33 : decode cX9_bestSet 33 = .ok (.iload_n 2, 1) := by decide +kernel
theorem dX9_bestSet_34 : decode cX9_bestSet 34 = .ok (.iconst (-1), 1) := by decide +kernel
theorem dX9_bestSet_35 : decode cX9_bestSet 35 = .ok (.if_icmp .ne 7, 3) := by decide +kernel
theorem dX9_bestSet_38 : decode cX9_bestSet 38 = .ok (.iconst 1, 1) := by decide +kernel
theorem dX9_bestSet_39 : decode cX9_bestSet 39 = .ok (.goto 42, 3) := by decide +kernel
theorem dX9_bestSet_42 : decode cX9_bestSet 42 = .ok (.iload_n 1, 1) := by decide +kernel
theorem dX9_bestSet_43 : decode cX9_bestSet 43 = .ok (.iconst 1, 1) := by decide +kernel
theorem dX9_bestSet_44 : decode cX9_bestSet 44 = .ok (.if_icmp .ne 26, 3) := by decide +kernel
theorem dX9_bestSet_47 : decode cX9_bestSet 47 = .ok (.iload_n 3, 1) := by decide +kernel
theorem dX9_bestSet_48 : decode cX9_bestSet 48 = .ok (.invokestatic 260, 3) := by decide +kernel
theorem dX9_bestSet_51 : decode cX9_bestSet 51 = .ok (.iload_n 2, 1) := by decide +kernel
theorem dX9_bestSet_52 : decode cX9_bestSet 52 = .ok (.invokestatic 260, 3) := by decide +kernel
theorem dX9_bestSet_55 : decode cX9_bestSet 55 = .ok (.if_icmp .eq 15, 3) := by decide +kernel
theorem dX9_bestSet_58 : decode cX9_bestSet 58 = .ok (.iload_n 3, 1) := by decide +kernel
theorem dX9_bestSet_59 : decode cX9_bestSet 59 = .ok (.invokestatic 260, 3) := by decide +kernel
theorem dX9_bestSet_62 : decode cX9_bestSet 62 = .ok (.iload_n 2, 1) := by decide +kernel
theorem dX9_bestSet_63 : decode cX9_bestSet 63 = .ok (.invokestatic 260, 3) := by decide +kernel
theorem dX9_bestSet_66 : decode cX9_bestSet 66 = .ok (.isub, 1) := by decide +kernel
theorem dX9_bestSet_67 : decode cX9_bestSet 67 = .ok (.goto 14, 3) := by decide +kernel
theorem dX9_bestSet_70 : decode cX9_bestSet 70 = .ok (.aload_n 0, 1) := by decide +kernel
theorem dX9_bestSet_71 : decode cX9_bestSet 71 = .ok (.iload_n 3, 1) := by decide +kernel
theorem dX9_bestSet_72 : decode cX9_bestSet 72 = .ok (.invokevirtual 322, 3) := by decide +kernel
theorem dX9_bestSet_75 : decode cX9_bestSet 75 = .ok (.aload_n 0, 1) := by decide +kernel
theorem dX9_bestSet_76 : decode cX9_bestSet 76 = .ok (.iload_n 2, 1) := by decide +kernel
theorem dX9_bestSet_77 : decode cX9_bestSet 77 = .ok (.invokevirtual 322, 3) := by decide +kernel
theorem dX9_bestSet_80 : decode cX9_bestSet 80 = .ok (.isub, 1) := by decide +kernel
theorem dX9_bestSet_81 : decode cX9_bestSet 81 = .ok (.istore 4, 2) := by decide +kernel
theorem dX9_bestSet_83 : decode cX9_bestSet 83 = .ok (.iload 4, 2) := by decide +kernel
theorem dX9_bestSet_85 : decode cX9_bestSet 85 = .ok (.ifCond .le 10, 3) := by decide +kernel
theorem dX9_bestSet_88 : decode cX9_bestSet 88 = .ok (.iload_n 3, 1) := by decide +kernel
theorem dX9_bestSet_89 : decode cX9_bestSet 89 = .ok (.istore_n 2, 1) := by decide +kernel
theorem dX9_bestSet_90 : decode cX9_bestSet 90 = .ok (.aload_n 0, 1) := by decide +kernel
theorem dX9_bestSet_91 : decode cX9_bestSet 91 = .ok (.iconst 0, 1) := by decide +kernel
theorem dX9_bestSet_92 : decode cX9_bestSet 92 = .ok (.putfield 325, 3) := by decide +kernel
theorem dX9_bestSet_95 : decode cX9_bestSet 95 = .ok (.aload_n 0, 1) := by decide +kernel
theorem dX9_bestSet_96 : decode cX9_bestSet 96 = .ok (.dup, 1) := by decide +kernel
theorem dX9_bestSet_97 : decode cX9_bestSet 97 = .ok (.getfield 325, 3) := by decide +kernel
theorem dX9_bestSet_100 : decode cX9_bestSet 100 = .ok (.iload 4, 2) := by decide +kernel
theorem dX9_bestSet_102 : decode cX9_bestSet 102 = .ok (.ifCond .ge 7, 3) := by decide +kernel
theorem dX9_bestSet_105 : decode cX9_bestSet 105 = .ok (.iconst 0, 1) := by decide +kernel
theorem dX9_bestSet_106 : decode cX9_bestSet 106 = .ok (.goto 4, 3) := by decide +kernel
theorem dX9_bestSet_109 : decode cX9_bestSet 109 = .ok (.iconst 1, 1) := by decide +kernel
theorem dX9_bestSet_110 : decode cX9_bestSet 110 = .ok (.iadd, 1) := by decide +kernel
theorem dX9_bestSet_111 : decode cX9_bestSet 111 = .ok (.putfield 325, 3) := by decide +kernel
theorem dX9_bestSet_114 : decode cX9_bestSet 114 = .ok (.iinc 3 1, 3) := by decide +kernel
theorem dX9_bestSet_117 : decode cX9_bestSet 117 = .ok (.goto (-113), 3) := by decide +kernel
theorem dX9_bestSet_120 : decode cX9_bestSet 120 = .ok (.iload_n 2, 1) := by decide +kernel
theorem dX9_bestSet_121 : decode cX9_bestSet 121 = .ok (.ireturn, 1) := by decide +kernel
theorem dX9_best_0 : decode cX9_best 0 = .ok (.iload_n 1, 1) := by decide +kernel
theorem dX9_best_1 : decode cX9_best 1 = .ok (.iconst 0, 1) := by decide +kernel
theorem dX9_best_2 : decode cX9_best 2 = .ok (.iconst 1, 1) := by decide +kernel
theorem dX9_best_3 : decode cX9_best 3 = .ok (.invokestatic 94, 3) := by decide +kernel
theorem dX9_best_6 : decode cX9_best 6 = .ok (.ifCond .eq 12, 3) := by decide +kernel
theorem dX9_best_9 : decode cX9_best 9 = .ok (.iload_n 2, 1) := by decide +kernel
theorem dX9_best_10 : decode cX9_best 10 = .ok (.iconst 0, 1) := by decide +kernel
theorem dX9_best_11 : decode cX9_best 11 = .ok (.iconst 3, 1) := by decide +kernel
theorem dX9_best_12 : decode cX9_best 12 = .ok (.invokestatic 94, 3) := by decide +kernel
theorem dX9_best_15 : decode cX9_best 15 = .ok (.ifCond .ne 5, 3) := by decide +kernel
theorem dX9_best_18 : decode cX9_best 18 = .ok (.iconst (-1), 1) := by decide +kernel
theorem dX9_best_19 : decode cX9_best 19 = .ok (.ireturn, 1) := by decide +kernel
theorem dX9_best_20 : decode cX9_best 20 = .ok (.aload_n 0, 1) := by decide +kernel
theorem dX9_best_21 : decode cX9_best 21 = .ok (.invokevirtual 279, 3) := by decide +kernel
theorem dX9_best_24 : decode cX9_best 24 = .ok (.aload_n 0, 1) := by decide +kernel
theorem dX9_best_25 : decode cX9_best 25 = .ok (.iload_n 1, 1) := by decide +kernel
theorem dX9_best_26 : decode cX9_best 26 = .ok (.invokevirtual 328, 3) := by decide +kernel
theorem dX9_best_29 : decode cX9_best 29 = .ok (.istore_n 3, 1) := by decide +kernel
theorem dX9_best_30 : decode cX9_best 30 = .ok (.iload_n 2, 1) := by decide +kernel
theorem dX9_best_31 : decode cX9_best 31 = .ok (.ifCond .ne 11, 3) := by decide +kernel
theorem dX9_best_34 : decode cX9_best 34 = .ok (.aload_n 0, 1) := by decide +kernel
theorem dX9_best_35 : decode cX9_best 35 = .ok (.iload_n 3, 1) := by decide +kernel
theorem dX9_best_36 : decode cX9_best 36 = .ok (.invokevirtual 322, 3) := by decide +kernel
theorem dX9_best_39 : decode cX9_best 39 = .ok (.goto 28, 3) := by decide +kernel
theorem dX9_best_42 : decode cX9_best 42 = .ok (.iload_n 2, 1) := by decide +kernel
theorem dX9_best_43 : decode cX9_best 43 = .ok (.iconst 1, 1) := by decide +kernel
theorem dX9_best_44 : decode cX9_best 44 = .ok (.if_icmp .ne 10, 3) := by decide +kernel
theorem dX9_best_47 : decode cX9_best 47 = .ok (.iload_n 3, 1) := by decide +kernel
theorem dX9_best_48 : decode cX9_best 48 = .ok (.invokestatic 260, 3) := by decide +kernel
theorem dX9_best_51 : decode cX9_best 51 = .ok (.goto 16, 3) := by decide +kernel
theorem dX9_best_54 : decode cX9_best 54 = .ok (.iload_n 2, 1) := by decide +kernel
theorem dX9_best_55 : decode cX9_best 55 = .ok (.iconst 2, 1) := by decide +kernel
theorem dX9_best_56 : decode cX9_best 56 = .ok (.if_icmp .ne 7, 3) := by decide +kernel
theorem dX9_best_59 : decode cX9_best 59 = .ok (.iload_n 3, 1) := by decide +kernel
theorem dX9_best_60 : decode cX9_best 60 = .ok (.goto 7, 3) := by decide +kernel
theorem dX9_best_63 : decode cX9_best 63 = .ok (.aload_n 0, 1) := by decide +kernel
theorem dX9_best_64 : decode cX9_best 64 = .ok (.getfield 325, 3) := by decide +kernel
theorem dX9_best_67 : decode cX9_best 67 = .ok (.ireturn, 1) := by decide +kernel
theorem dX9_nexts_0 : decode cX9_nexts 0 = .ok (.iconst 0, 1) := by decide +kernel
theorem dX9_nexts_1 : decode cX9_nexts 1 = .ok (.istore_n 3, 1) := by decide +kernel
theorem dX9_nexts_2 : decode cX9_nexts 2 = .ok (.iconst 0, 1) := by decide +kernel
theorem dX9_nexts_3 : decode cX9_nexts 3 = .ok (.istore 4, 2) := by decide +kernel
theorem dX9_nexts_5 : decode cX9_nexts 5 = .ok (.iload 4, 2) := by decide +kernel
theorem dX9_nexts_7 : decode cX9_nexts 7 = .ok (.iconst 4, 1) := by decide +kernel
theorem dX9_nexts_8 : decode cX9_nexts 8 = .ok (.if_icmp .gt 65, 3) := by decide +kernel
theorem dX9_nexts_11 : decode cX9_nexts 11 = .ok (.iconst 0, 1) := by decide +kernel
theorem dX9_nexts_12 : decode cX9_nexts 12 = .ok (.istore 5, 2) := by decide +kernel
theorem dX9_nexts_14 : decode cX9_nexts 14 = .ok (.iload 5, 2) := by decide +kernel
theorem dX9_nexts_16 : decode cX9_nexts 16 = .ok (.iconst 4, 1) := by decide +kernel
theorem dX9_nexts_17 : decode cX9_nexts 17 = .ok (.if_icmp .ge 50, 3) := by decide +kernel
theorem dX9_nexts_20 : decode cX9_nexts 20 = .ok (.iload_n 2, 1) := by decide +kernel
theorem dX9_nexts_21 : decode cX9_nexts 21 = .ok (.iload 4, 2) := by decide +kernel
theorem dX9_nexts_23 : decode cX9_nexts 23 = .ok (.invokestatic 269, 3) := by decide +kernel
theorem dX9_nexts_26 : decode cX9_nexts 26 = .ok (.ifCond .eq 35, 3) := by decide +kernel
theorem dX9_nexts_29 : decode cX9_nexts 29 = .ok (.aload_n 0, 1) := by decide +kernel
theorem dX9_nexts_30 : decode cX9_nexts 30 = .ok (.getfield 61, 3) := by decide +kernel
theorem dX9_nexts_33 : decode cX9_nexts 33 = .ok (.iload_n 1, 1) := by decide +kernel
theorem dX9_nexts_34 : decode cX9_nexts 34 = .ok (.iaload, 1) := by decide +kernel
theorem dX9_nexts_35 : decode cX9_nexts 35 = .ok (.iload 5, 2) := by decide +kernel
theorem dX9_nexts_37 : decode cX9_nexts 37 = .ok (.invokestatic 269, 3) := by decide +kernel
theorem dX9_nexts_40 : decode cX9_nexts 40 = .ok (.ifCond .eq 21, 3) := by decide +kernel
theorem dX9_nexts_43 : decode cX9_nexts 43 = .ok (.aload_n 0, 1) := by decide +kernel
theorem dX9_nexts_44 : decode cX9_nexts 44 = .ok (.iload 4, 2) := by decide +kernel
theorem dX9_nexts_46 : decode cX9_nexts 46 = .ok (.iload 5, 2) := by decide +kernel
theorem dX9_nexts_48 : decode cX9_nexts 48 = .ok (.invokevirtual 288, 3) := by decide +kernel
theorem dX9_nexts_51 : decode cX9_nexts 51 = .ok (.ifCond .eq 10, 3) := by decide +kernel
theorem dX9_nexts_54 : decode cX9_nexts 54 = .ok (.iload_n 3, 1) := by decide +kernel
theorem dX9_nexts_55 : decode cX9_nexts 55 = .ok (.iconst 1, 1) := by decide +kernel
theorem dX9_nexts_56 : decode cX9_nexts 56 = .ok (.iload 5, 2) := by decide +kernel
theorem dX9_nexts_58 : decode cX9_nexts 58 = .ok (.ishl, 1) := by decide +kernel
theorem dX9_nexts_59 : decode cX9_nexts 59 = .ok (.ior, 1) := by decide +kernel
theorem dX9_nexts_60 : decode cX9_nexts 60 = .ok (.istore_n 3, 1) := by decide +kernel
theorem dX9_nexts_61 : decode cX9_nexts 61 = .ok (.iinc 5 1, 3) := by decide +kernel
theorem dX9_nexts_64 : decode cX9_nexts 64 = .ok (.goto (-50), 3) := by decide +kernel
theorem dX9_nexts_67 : decode cX9_nexts 67 = .ok (.iinc 4 1, 3) := by decide +kernel
theorem dX9_nexts_70 : decode cX9_nexts 70 = .ok (.goto (-65), 3) := by decide +kernel
theorem dX9_nexts_73 : decode cX9_nexts 73 = .ok (.iload_n 3, 1) := by decide +kernel
theorem dX9_nexts_74 : decode cX9_nexts 74 = .ok (.ireturn, 1) := by decide +kernel
theorem dX9_orders0_0 : decode cX9_orders0 0 = .ok (.iload_n 1, 1) := by decide +kernel
theorem dX9_orders0_1 : decode cX9_orders0 1 = .ok (.istore_n 2, 1) := by decide +kernel
theorem dX9_orders0_2 : decode cX9_orders0 2 = .ok (.aload_n 0, 1) := by decide +kernel
theorem dX9_orders0_3 : decode cX9_orders0 3 = .ok (.invokevirtual 306, 3) := by decide +kernel
theorem dX9_orders0_6 : decode cX9_orders0 6 = .ok (.istore_n 3, 1) := by decide +kernel
theorem dX9_orders0_7 : decode cX9_orders0 7 = .ok (.iconst 1, 1) := by decide +kernel
theorem dX9_orders0_8 : decode cX9_orders0 8 = .ok (.aload_n 0, 1) := by decide +kernel
theorem dX9_orders0_9 : decode cX9_orders0 9 = .ok (.invokevirtual 309, 3) := by decide +kernel
theorem dX9_orders0_12 : decode cX9_orders0 12 = .ok (.ishl, 1) := by decide +kernel
theorem dX9_orders0_13 : decode cX9_orders0 13 = .ok (.istore 4, 2) := by decide +kernel
theorem dX9_orders0_15 : decode cX9_orders0 15 = .ok (.iload_n 1, 1) := by decide +kernel
theorem dX9_orders0_16 : decode cX9_orders0 16 = .ok (.invokestatic 260, 3) := by decide +kernel
theorem dX9_orders0_19 : decode cX9_orders0 19 = .ok (.istore 5, 2) := by decide +kernel
theorem dX9_orders0_21 : decode cX9_orders0 21 = .ok (.iconst 0, 1) := by decide +kernel
theorem dX9_orders0_22 : decode cX9_orders0 22 = .ok (.istore 6, 2) := by decide +kernel
theorem dX9_orders0_24 : decode cX9_orders0 24 = .ok (.iload 6, 2) := by decide +kernel
theorem dX9_orders0_26 : decode cX9_orders0 26 = .ok (.iload 5, 2) := by decide +kernel
theorem dX9_orders0_28 : decode cX9_orders0 28 = .ok (.if_icmp .ge 112, 3) := by decide +kernel
theorem dX9_orders0_31 : decode cX9_orders0 31 = .ok (.iconst (-1), 1) := by decide +kernel
theorem dX9_orders0_32 : decode cX9_orders0 32 = .ok (.istore 7, 2) := by decide +kernel
theorem dX9_orders0_34 : decode cX9_orders0 34 = .ok (.iconst 0, 1) := by decide +kernel
theorem dX9_orders0_35 : decode cX9_orders0 35 = .ok (.istore 8, 2) := by decide +kernel
theorem dX9_orders0_37 : decode cX9_orders0 37 = .ok (.iload 8, 2) := by decide +kernel
theorem dX9_orders0_39 : decode cX9_orders0 39 = .ok (.ifCond .ne 57, 3) := by decide +kernel
theorem dX9_orders0_42 : decode cX9_orders0 42 = .ok (.iinc 7 1, 3) := by decide +kernel
theorem dX9_orders0_45 : decode cX9_orders0 45 = .ok (.iload_n 2, 1) := by decide +kernel
theorem dX9_orders0_46 : decode cX9_orders0 46 = .ok (.iload 7, 2) := by decide +kernel
theorem dX9_orders0_48 : decode cX9_orders0 48 = .ok (.invokestatic 269, 3) := by decide +kernel
theorem dX9_orders0_51 : decode cX9_orders0 51 = .ok (.ifCond .eq (-14), 3) := by decide +kernel
theorem dX9_orders0_54 : decode cX9_orders0 54 = .ok (.aload_n 0, 1) := by decide +kernel
theorem dX9_orders0_55 : decode cX9_orders0 55 = .ok (.iload 7, 2) := by decide +kernel
theorem dX9_orders0_57 : decode cX9_orders0 57 = .ok (.iload_n 3, 1) := by decide +kernel
theorem dX9_orders0_58 : decode cX9_orders0 58 = .ok (.invokevirtual 300, 3) := by decide +kernel
theorem dX9_orders0_61 : decode cX9_orders0 61 = .ok (.ifCond .eq (-24), 3) := by decide +kernel
theorem dX9_orders0_64 : decode cX9_orders0 64 = .ok (.aload_n 0, 1) := by decide +kernel
theorem dX9_orders0_65 : decode cX9_orders0 65 = .ok (.aload_n 0, 1) := by decide +kernel
theorem dX9_orders0_66 : decode cX9_orders0 66 = .ok (.iload 7, 2) := by decide +kernel
theorem dX9_orders0_68 : decode cX9_orders0 68 = .ok (.iload 4, 2) := by decide +kernel
theorem dX9_orders0_70 : decode cX9_orders0 70 = .ok (.invokevirtual 331, 3) := by decide +kernel
theorem dX9_orders0_73 : decode cX9_orders0 73 = .ok (.iload_n 2, 1) := by decide +kernel
theorem dX9_orders0_74 : decode cX9_orders0 74 = .ok (.iconst 1, 1) := by decide +kernel
theorem dX9_orders0_75 : decode cX9_orders0 75 = .ok (.iload 7, 2) := by decide +kernel
theorem dX9_orders0_77 : decode cX9_orders0 77 = .ok (.ishl, 1) := by decide +kernel
theorem dX9_orders0_78 : decode cX9_orders0 78 = .ok (.iconst (-1), 1) := by decide +kernel
theorem dX9_orders0_79 : decode cX9_orders0 79 = .ok (.ixor, 1) := by decide +kernel
theorem dX9_orders0_80 : decode cX9_orders0 80 = .ok (.iand, 1) := by decide +kernel
theorem dX9_orders0_81 : decode cX9_orders0 81 = .ok (.aload_n 0, 1) := by decide +kernel
theorem dX9_orders0_82 : decode cX9_orders0 82 = .ok (.iload 7, 2) := by decide +kernel
theorem dX9_orders0_84 : decode cX9_orders0 84 = .ok (.iload_n 3, 1) := by decide +kernel
theorem dX9_orders0_85 : decode cX9_orders0 85 = .ok (.invokevirtual 297, 3) := by decide +kernel
theorem dX9_orders0_88 : decode cX9_orders0 88 = .ok (.invokevirtual 334, 3) := by decide +kernel
theorem dX9_orders0_91 : decode cX9_orders0 91 = .ok (.istore 8, 2) := by decide +kernel
theorem dX9_orders0_93 : decode cX9_orders0 93 = .ok (.goto (-56), 3) := by decide +kernel
theorem dX9_orders0_96 : decode cX9_orders0 96 = .ok (.aload_n 0, 1) := by decide +kernel
theorem dX9_orders0_97 : decode cX9_orders0 97 = .ok (.getfield 70, 3) := by decide +kernel
theorem dX9_orders0_100 : decode cX9_orders0 100 = .ok (.iload 6, 2) := by decide +kernel
theorem dX9_orders0_102 : decode cX9_orders0 102 = .ok (.iload 7, 2) := by decide +kernel
theorem dX9_orders0_104 : decode cX9_orders0 104 = .ok (.iastore, 1) := by decide +kernel
theorem dX9_orders0_105 : decode cX9_orders0 105 = .ok (.aload_n 0, 1) := by decide +kernel
theorem dX9_orders0_106 : decode cX9_orders0 106 = .ok (.iload 7, 2) := by decide +kernel
theorem dX9_orders0_108 : decode cX9_orders0 108 = .ok (.iload_n 3, 1) := by decide +kernel
theorem dX9_orders0_109 : decode cX9_orders0 109 = .ok (.invokevirtual 297, 3) := by decide +kernel
theorem dX9_orders0_112 : decode cX9_orders0 112 = .ok (.istore_n 3, 1) := by decide +kernel
theorem dX9_orders0_113 : decode cX9_orders0 113 = .ok (.aload_n 0, 1) := by decide +kernel
theorem dX9_orders0_114 : decode cX9_orders0 114 = .ok (.getfield 73, 3) := by decide +kernel
theorem dX9_orders0_117 : decode cX9_orders0 117 = .ok (.iload 6, 2) := by decide +kernel
theorem dX9_orders0_119 : decode cX9_orders0 119 = .ok (.iload_n 3, 1) := by decide +kernel
theorem dX9_orders0_120 : decode cX9_orders0 120 = .ok (.iastore, 1) := by decide +kernel
theorem dX9_orders0_121 : decode cX9_orders0 121 = .ok (.iload_n 2, 1) := by decide +kernel
theorem dX9_orders0_122 : decode cX9_orders0 122 = .ok (.iconst 1, 1) := by decide +kernel
theorem dX9_orders0_123 : decode cX9_orders0 123 = .ok (.iload 7, 2) := by decide +kernel
theorem dX9_orders0_125 : decode cX9_orders0 125 = .ok (.ishl, 1) := by decide +kernel
theorem dX9_orders0_126 : decode cX9_orders0 126 = .ok (.iconst (-1), 1) := by decide +kernel
theorem dX9_orders0_127 : decode cX9_orders0 127 = .ok (.ixor, 1) := by decide +kernel
theorem dX9_orders0_128 : decode cX9_orders0 128 = .ok (.iand, 1) := by decide +kernel
theorem dX9_orders0_129 : decode cX9_orders0 129 = .ok (.istore_n 2, 1) := by decide +kernel
theorem dX9_orders0_130 : decode cX9_orders0 130 = .ok (.iload 8, 2) := by decide +kernel
theorem dX9_orders0_132 : decode cX9_orders0 132 = .ok (.istore 4, 2) := by decide +kernel
theorem dX9_orders0_134 : decode cX9_orders0 134 = .ok (.iinc 6 1, 3) := by decide +kernel
theorem dX9_orders0_137 : decode cX9_orders0 137 = .ok (.goto (-113), 3) := by decide +kernel
theorem dX9_orders0_140 : decode cX9_orders0 140 = .ok (.aload_n 0, 1) := by decide +kernel
theorem dX9_orders0_141 : decode cX9_orders0 141 = .ok (.getfield 79, 3) := by decide +kernel
theorem dX9_orders0_144 : decode cX9_orders0 144 = .ok (.iload 5, 2) := by decide +kernel
theorem dX9_orders0_146 : decode cX9_orders0 146 = .ok (.bipush 15, 2) := by decide +kernel
theorem dX9_orders0_148 : decode cX9_orders0 148 = .ok (.iastore, 1) := by decide +kernel
theorem dX9_orders0_149 : decode cX9_orders0 149 = .ok (.iload 5, 2) := by decide +kernel
theorem dX9_orders0_151 : decode cX9_orders0 151 = .ok (.iconst 1, 1) := by decide +kernel
theorem dX9_orders0_152 : decode cX9_orders0 152 = .ok (.isub, 1) := by decide +kernel
theorem dX9_orders0_153 : decode cX9_orders0 153 = .ok (.istore 6, 2) := by decide +kernel
theorem dX9_orders0_155 : decode cX9_orders0 155 = .ok (.iload 6, 2) := by decide +kernel
theorem dX9_orders0_157 : decode cX9_orders0 157 = .ok (.ifCond .lt 93, 3) := by decide +kernel
theorem dX9_orders0_160 : decode cX9_orders0 160 = .ok (.aload_n 0, 1) := by decide +kernel
theorem dX9_orders0_161 : decode cX9_orders0 161 = .ok (.getfield 79, 3) := by decide +kernel
theorem dX9_orders0_164 : decode cX9_orders0 164 = .ok (.iload 6, 2) := by decide +kernel
theorem dX9_orders0_166 : decode cX9_orders0 166 = .ok (.iconst 0, 1) := by decide +kernel
theorem dX9_orders0_167 : decode cX9_orders0 167 = .ok (.iastore, 1) := by decide +kernel
theorem dX9_orders0_168 : decode cX9_orders0 168 = .ok (.iconst 0, 1) := by decide +kernel
theorem dX9_orders0_169 : decode cX9_orders0 169 = .ok (.istore 7, 2) := by decide +kernel
theorem dX9_orders0_171 : decode cX9_orders0 171 = .ok (.iload 7, 2) := by decide +kernel
theorem dX9_orders0_173 : decode cX9_orders0 173 = .ok (.iconst 4, 1) := by decide +kernel
theorem dX9_orders0_174 : decode cX9_orders0 174 = .ok (.if_icmp .ge 70, 3) := by decide +kernel
theorem dX9_orders0_177 : decode cX9_orders0 177 = .ok (.aload_n 0, 1) := by decide +kernel
theorem dX9_orders0_178 : decode cX9_orders0 178 = .ok (.getfield 61, 3) := by decide +kernel
theorem dX9_orders0_181 : decode cX9_orders0 181 = .ok (.aload_n 0, 1) := by decide +kernel
theorem dX9_orders0_182 : decode cX9_orders0 182 = .ok (.getfield 70, 3) := by decide +kernel
theorem dX9_orders0_185 : decode cX9_orders0 185 = .ok (.iload 6, 2) := by decide +kernel
theorem dX9_orders0_187 : decode cX9_orders0 187 = .ok (.iaload, 1) := by decide +kernel
theorem dX9_orders0_188 : decode cX9_orders0 188 = .ok (.iaload, 1) := by decide +kernel
theorem dX9_orders0_189 : decode cX9_orders0 189 = .ok (.iload 7, 2) := by decide +kernel
theorem dX9_orders0_191 : decode cX9_orders0 191 = .ok (.invokestatic 269, 3) := by decide +kernel
theorem dX9_orders0_194 : decode cX9_orders0 194 = .ok (.ifCond .eq 44, 3) := by decide +kernel
theorem dX9_orders0_197 : decode cX9_orders0 197 = .ok (.iload 6, 2) := by decide +kernel
theorem dX9_orders0_199 : decode cX9_orders0 199 = .ok (.iload 5, 2) := by decide +kernel
theorem dX9_orders0_201 : decode cX9_orders0 201 = .ok (.iconst 1, 1) := by decide +kernel
theorem dX9_orders0_202 : decode cX9_orders0 202 = .ok (.isub, 1) := by decide +kernel
theorem dX9_orders0_203 : decode cX9_orders0 203 = .ok (.if_icmp .eq 21, 3) := by decide +kernel
theorem dX9_orders0_206 : decode cX9_orders0 206 = .ok (.aload_n 0, 1) := by decide +kernel
theorem dX9_orders0_207 : decode cX9_orders0 207 = .ok (.iload 7, 2) := by decide +kernel
theorem dX9_orders0_209 : decode cX9_orders0 209 = .ok (.aload_n 0, 1) := by decide +kernel
theorem dX9_orders0_210 : decode cX9_orders0 210 = .ok (.getfield 79, 3) := by decide +kernel
theorem dX9_orders0_213 : decode cX9_orders0 213 = .ok (.iload 6, 2) := by decide +kernel
theorem dX9_orders0_215 : decode cX9_orders0 215 = .ok (.iconst 1, 1) := by decide +kernel
theorem dX9_orders0_216 : decode cX9_orders0 216 = .ok (.iadd, 1) := by decide +kernel
theorem dX9_orders0_217 : decode cX9_orders0 217 = .ok (.iaload, 1) := by decide +kernel
theorem dX9_orders0_218 : decode cX9_orders0 218 = .ok (.invokevirtual 338, 3) := by decide +kernel
theorem dX9_orders0_221 : decode cX9_orders0 221 = .ok (.ifCond .eq 17, 3) := by decide +kernel
theorem dX9_orders0_224 : decode cX9_orders0 224 = .ok (.aload_n 0, 1) := by decide +kernel
theorem dX9_orders0_225 : decode cX9_orders0 225 = .ok (.getfield 79, 3) := by decide +kernel
theorem dX9_orders0_228 : decode cX9_orders0 228 = .ok (.iload 6, 2) := by decide +kernel
theorem dX9_orders0_230 : decode cX9_orders0 230 = .ok (.dup2, 1) := by decide +kernel
theorem dX9_orders0_231 : decode cX9_orders0 231 = .ok (.iaload, 1) := by decide +kernel
theorem dX9_orders0_232 : decode cX9_orders0 232 = .ok (.iconst 1, 1) := by decide +kernel
theorem dX9_orders0_233 : decode cX9_orders0 233 = .ok (.iload 7, 2) := by decide +kernel
theorem dX9_orders0_235 : decode cX9_orders0 235 = .ok (.ishl, 1) := by decide +kernel
theorem dX9_orders0_236 : decode cX9_orders0 236 = .ok (.ior, 1) := by decide +kernel
theorem dX9_orders0_237 : decode cX9_orders0 237 = .ok (.iastore, 1) := by decide +kernel
theorem dX9_orders0_238 : decode cX9_orders0 238 = .ok (.iinc 7 1, 3) := by decide +kernel
theorem dX9_orders0_241 : decode cX9_orders0 241 = .ok (.goto (-70), 3) := by decide +kernel
theorem dX9_orders0_244 : decode cX9_orders0 244 = .ok (.iinc 6 (-1), 3) := by decide +kernel
theorem dX9_orders0_247 : decode cX9_orders0 247 = .ok (.goto (-92), 3) := by decide +kernel
theorem dX9_orders0_250 : decode cX9_orders0 250 = .ok (.aload_n 0, 1) := by decide +kernel
theorem dX9_orders0_251 : decode cX9_orders0 251 = .ok (.invokevirtual 309, 3) := by decide +kernel
theorem dX9_orders0_254 : decode cX9_orders0 254 = .ok (.istore 6, 2) := by decide +kernel
theorem dX9_orders0_256 : decode cX9_orders0 256 = .ok (.iconst 0, 1) := by decide +kernel
theorem dX9_orders0_257 : decode cX9_orders0 257 = .ok (.istore 7, 2) := by decide +kernel
theorem dX9_orders0_259 : decode cX9_orders0 259 = .ok (.iload 7, 2) := by decide +kernel
theorem dX9_orders0_261 : decode cX9_orders0 261 = .ok (.iload 5, 2) := by decide +kernel
theorem dX9_orders0_263 : decode cX9_orders0 263 = .ok (.if_icmp .ge 57, 3) := by decide +kernel
theorem dX9_orders0_266 : decode cX9_orders0 266 = .ok (.iconst 0, 1) := by decide +kernel
theorem dX9_orders0_267 : decode cX9_orders0 267 = .ok (.istore 8, 2) := by decide +kernel
theorem dX9_orders0_269 : decode cX9_orders0 269 = .ok (.aload_n 0, 1) := by decide +kernel
theorem dX9_orders0_270 : decode cX9_orders0 270 = .ok (.getfield 79, 3) := by decide +kernel
theorem dX9_orders0_273 : decode cX9_orders0 273 = .ok (.iload 7, 2) := by decide +kernel
theorem dX9_orders0_275 : decode cX9_orders0 275 = .ok (.iaload, 1) := by decide +kernel
theorem dX9_orders0_276 : decode cX9_orders0 276 = .ok (.iload 8, 2) := by decide +kernel
theorem dX9_orders0_278 : decode cX9_orders0 278 = .ok (.invokestatic 269, 3) := by decide +kernel
theorem dX9_orders0_281 : decode cX9_orders0 281 = .ok (.ifCond .eq 14, 3) := by decide +kernel
theorem dX9_orders0_284 : decode cX9_orders0 284 = .ok (.aload_n 0, 1) := by decide +kernel
theorem dX9_orders0_285 : decode cX9_orders0 285 = .ok (.iload 6, 2) := by decide +kernel
theorem dX9_orders0_287 : decode cX9_orders0 287 = .ok (.iload 8, 2) := by decide +kernel
theorem dX9_orders0_289 : decode cX9_orders0 289 = .ok (.invokevirtual 288, 3) := by decide +kernel
theorem dX9_orders0_292 : decode cX9_orders0 292 = .ok (.ifCond .ne 9, 3) := by decide +kernel
theorem dX9_orders0_295 : decode cX9_orders0 295 = .ok (.iinc 8 1, 3) := by decide +kernel
theorem dX9_orders0_298 : decode cX9_orders0 298 = .ok (.goto (-29), 3) := by decide +kernel
theorem dX9_orders0_301 : decode cX9_orders0 301 = .ok (.aload_n 0, 1) := by decide +kernel
theorem dX9_orders0_302 : decode cX9_orders0 302 = .ok (.getfield 76, 3) := by decide +kernel
theorem dX9_orders0_305 : decode cX9_orders0 305 = .ok (.iload 7, 2) := by decide +kernel
theorem dX9_orders0_307 : decode cX9_orders0 307 = .ok (.iload 8, 2) := by decide +kernel
theorem dX9_orders0_309 : decode cX9_orders0 309 = .ok (.iastore, 1) := by decide +kernel
theorem dX9_orders0_310 : decode cX9_orders0 310 = .ok (.iload 8, 2) := by decide +kernel
theorem dX9_orders0_312 : decode cX9_orders0 312 = .ok (.istore 6, 2) := by decide +kernel
theorem dX9_orders0_314 : decode cX9_orders0 314 = .ok (.iinc 7 1, 3) := by decide +kernel
theorem dX9_orders0_317 : decode cX9_orders0 317 = .ok (.goto (-58), 3) := by decide +kernel
theorem dX9_orders0_320 : decode cX9_orders0 320 = .ok (.return_, 1) := by decide +kernel
theorem dX9_leadsOn_0 : decode cX9_leadsOn 0 = .ok (.iconst 0, 1) := by decide +kernel
theorem dX9_leadsOn_1 : decode cX9_leadsOn 1 = .ok (.istore_n 3, 1) := by decide +kernel
theorem dX9_leadsOn_2 : decode cX9_leadsOn 2 = .ok (.iload_n 3, 1) := by decide +kernel
theorem dX9_leadsOn_3 : decode cX9_leadsOn 3 = .ok (.iconst 4, 1) := by decide +kernel
theorem dX9_leadsOn_4 : decode cX9_leadsOn 4 = .ok (.if_icmp .ge 28, 3) := by decide +kernel
theorem dX9_leadsOn_7 : decode cX9_leadsOn 7 = .ok (.iload_n 2, 1) := by decide +kernel
theorem dX9_leadsOn_8 : decode cX9_leadsOn 8 = .ok (.iload_n 3, 1) := by decide +kernel
theorem dX9_leadsOn_9 : decode cX9_leadsOn 9 = .ok (.invokestatic 269, 3) := by decide +kernel
theorem dX9_leadsOn_12 : decode cX9_leadsOn 12 = .ok (.ifCond .eq 14, 3) := by decide +kernel
theorem dX9_leadsOn_15 : decode cX9_leadsOn 15 = .ok (.aload_n 0, 1) := by decide +kernel
theorem dX9_leadsOn_16 : decode cX9_leadsOn 16 = .ok (.iload_n 1, 1) := by decide +kernel
theorem dX9_leadsOn_17 : decode cX9_leadsOn 17 = .ok (.iload_n 3, 1) := by decide +kernel
theorem dX9_leadsOn_18 : decode cX9_leadsOn 18 = .ok (.invokevirtual 288, 3) := by decide +kernel
theorem dX9_leadsOn_21 : decode cX9_leadsOn 21 = .ok (.ifCond .eq 5, 3) := by decide +kernel
theorem dX9_leadsOn_24 : decode cX9_leadsOn 24 = .ok (.iconst 1, 1) := by decide +kernel
theorem dX9_leadsOn_25 : decode cX9_leadsOn 25 = .ok (.ireturn, 1) := by decide +kernel
theorem dX9_leadsOn_26 : decode cX9_leadsOn 26 = .ok (.iinc 3 1, 3) := by decide +kernel
theorem dX9_leadsOn_29 : decode cX9_leadsOn 29 = .ok (.goto (-27), 3) := by decide +kernel
theorem dX9_leadsOn_32 : decode cX9_leadsOn 32 = .ok (.iconst 0, 1) := by decide +kernel
theorem dX9_leadsOn_33 : decode cX9_leadsOn 33 = .ok (.ireturn, 1) := by decide +kernel
theorem dX9_goOnBy_0 : decode cX9_goOnBy 0 = .ok (.iconst 0, 1) := by decide +kernel
theorem dX9_goOnBy_1 : decode cX9_goOnBy 1 = .ok (.istore 4, 2) := by decide +kernel
theorem dX9_goOnBy_3 : decode cX9_goOnBy 3 = .ok (.iconst 0, 1) := by decide +kernel
theorem dX9_goOnBy_4 : decode cX9_goOnBy 4 = .ok (.istore 5, 2) := by decide +kernel
theorem dX9_goOnBy_6 : decode cX9_goOnBy 6 = .ok (.iload 5, 2) := by decide +kernel
theorem dX9_goOnBy_8 : decode cX9_goOnBy 8 = .ok (.iconst 4, 1) := by decide +kernel
theorem dX9_goOnBy_9 : decode cX9_goOnBy 9 = .ok (.if_icmp .ge 42, 3) := by decide +kernel
theorem dX9_goOnBy_12 : decode cX9_goOnBy 12 = .ok (.iload_n 1, 1) := by decide +kernel
theorem dX9_goOnBy_13 : decode cX9_goOnBy 13 = .ok (.iload 5, 2) := by decide +kernel
theorem dX9_goOnBy_15 : decode cX9_goOnBy 15 = .ok (.invokestatic 269, 3) := by decide +kernel
theorem dX9_goOnBy_18 : decode cX9_goOnBy 18 = .ok (.ifCond .eq 27, 3) := by decide +kernel
theorem dX9_goOnBy_21 : decode cX9_goOnBy 21 = .ok (.aload_n 0, 1) := by decide +kernel
theorem dX9_goOnBy_22 : decode cX9_goOnBy 22 = .ok (.getfield 67, 3) := by decide +kernel
theorem dX9_goOnBy_25 : decode cX9_goOnBy 25 = .ok (.iconst 5, 1) := by decide +kernel
theorem dX9_goOnBy_26 : decode cX9_goOnBy 26 = .ok (.iload_n 2, 1) := by decide +kernel
theorem dX9_goOnBy_27 : decode cX9_goOnBy 27 = .ok (.imul, 1) := by decide +kernel
theorem dX9_goOnBy_28 : decode cX9_goOnBy 28 = .ok (.iload 5, 2) := by decide +kernel
theorem dX9_goOnBy_30 : decode cX9_goOnBy 30 = .ok (.iadd, 1) := by decide +kernel
theorem dX9_goOnBy_31 : decode cX9_goOnBy 31 = .ok (.iaload, 1) := by decide +kernel
theorem dX9_goOnBy_32 : decode cX9_goOnBy 32 = .ok (.iload_n 3, 1) := by decide +kernel
theorem dX9_goOnBy_33 : decode cX9_goOnBy 33 = .ok (.if_icmp .gt 12, 3) := by decide +kernel
theorem dX9_goOnBy_36 : decode cX9_goOnBy 36 = .ok (.iload 4, 2) := by decide +kernel
theorem dX9_goOnBy_38 : decode cX9_goOnBy 38 = .ok (.iconst 1, 1) := by decide +kernel
theorem dX9_goOnBy_39 : decode cX9_goOnBy 39 = .ok (.iload 5, 2) := by decide +kernel
theorem dX9_goOnBy_41 : decode cX9_goOnBy 41 = .ok (.ishl, 1) := by decide +kernel
theorem dX9_goOnBy_42 : decode cX9_goOnBy 42 = .ok (.ior, 1) := by decide +kernel
theorem dX9_goOnBy_43 : decode cX9_goOnBy 43 = .ok (.istore 4, 2) := by decide +kernel
theorem dX9_goOnBy_45 : decode cX9_goOnBy 45 = .ok (.iinc 5 1, 3) := by decide +kernel
theorem dX9_goOnBy_48 : decode cX9_goOnBy 48 = .ok (.goto (-42), 3) := by decide +kernel
theorem dX9_goOnBy_51 : decode cX9_goOnBy 51 = .ok (.iload 4, 2) := by decide +kernel
theorem dX9_goOnBy_53 : decode cX9_goOnBy 53 = .ok (.ireturn, 1) := by decide +kernel
theorem dX9_order_0 : decode cX9_order 0 = .ok (.aload_n 0, 1) := by decide +kernel
theorem dX9_order_1 : decode cX9_order 1 = .ok (.iload_n 1, 1) := by decide +kernel
theorem dX9_order_2 : decode cX9_order 2 = .ok (.invokevirtual 316, 3) := by decide +kernel
theorem dX9_order_5 : decode cX9_order 5 = .ok (.ifCond .eq 12, 3) := by decide +kernel
theorem dX9_order_8 : decode cX9_order 8 = .ok (.iload_n 3, 1) := by decide +kernel
theorem dX9_order_9 : decode cX9_order 9 = .ok (.iconst 0, 1) := by decide +kernel
theorem dX9_order_10 : decode cX9_order 10 = .ok (.iconst 2, 1) := by decide +kernel
theorem dX9_order_11 : decode cX9_order 11 = .ok (.invokestatic 94, 3) := by decide +kernel
theorem dX9_order_14 : decode cX9_order 14 = .ok (.ifCond .ne 5, 3) := by decide +kernel
theorem dX9_order_17 : decode cX9_order 17 = .ok (.iconst (-1), 1) := by decide +kernel
theorem dX9_order_18 : decode cX9_order 18 = .ok (.ireturn, 1) := by decide +kernel
theorem dX9_order_19 : decode cX9_order 19 = .ok (.aload_n 0, 1) := by decide +kernel
theorem dX9_order_20 : decode cX9_order 20 = .ok (.invokevirtual 279, 3) := by decide +kernel
theorem dX9_order_23 : decode cX9_order 23 = .ok (.aload_n 0, 1) := by decide +kernel
theorem dX9_order_24 : decode cX9_order 24 = .ok (.iload_n 1, 1) := by decide +kernel
theorem dX9_order_25 : decode cX9_order 25 = .ok (.invokevirtual 319, 3) := by decide +kernel
theorem dX9_order_28 : decode cX9_order 28 = .ok (.ifCond .eq 17, 3) := by decide +kernel
theorem dX9_order_31 : decode cX9_order 31 = .ok (.iload_n 2, 1) := by decide +kernel
theorem dX9_order_32 : decode cX9_order 32 = .ok (.iconst 0, 1) := by decide +kernel
theorem dX9_order_33 : decode cX9_order 33 = .ok (.iload_n 1, 1) := by decide +kernel
theorem dX9_order_34 : decode cX9_order 34 = .ok (.invokestatic 260, 3) := by decide +kernel
theorem dX9_order_37 : decode cX9_order 37 = .ok (.iconst 1, 1) := by decide +kernel
theorem dX9_order_38 : decode cX9_order 38 = .ok (.isub, 1) := by decide +kernel
theorem dX9_order_39 : decode cX9_order 39 = .ok (.invokestatic 94, 3) := by decide +kernel
theorem dX9_order_42 : decode cX9_order 42 = .ok (.ifCond .ne 5, 3) := by decide +kernel
theorem dX9_order_45 : decode cX9_order 45 = .ok (.iconst (-1), 1) := by decide +kernel
theorem dX9_order_46 : decode cX9_order 46 = .ok (.ireturn, 1) := by decide +kernel
theorem dX9_order_47 : decode cX9_order 47 = .ok (.aload_n 0, 1) := by decide +kernel
theorem dX9_order_48 : decode cX9_order 48 = .ok (.iload_n 1, 1) := by decide +kernel
theorem dX9_order_49 : decode cX9_order 49 = .ok (.invokevirtual 341, 3) := by decide +kernel
theorem dX9_order_52 : decode cX9_order 52 = .ok (.iload_n 3, 1) := by decide +kernel
theorem dX9_order_53 : decode cX9_order 53 = .ok (.ifCond .ne 12, 3) := by decide +kernel
theorem dX9_order_56 : decode cX9_order 56 = .ok (.aload_n 0, 1) := by decide +kernel
theorem dX9_order_57 : decode cX9_order 57 = .ok (.getfield 70, 3) := by decide +kernel
theorem dX9_order_60 : decode cX9_order 60 = .ok (.iload_n 2, 1) := by decide +kernel
theorem dX9_order_61 : decode cX9_order 61 = .ok (.iaload, 1) := by decide +kernel
theorem dX9_order_62 : decode cX9_order 62 = .ok (.goto 23, 3) := by decide +kernel
theorem dX9_order_65 : decode cX9_order 65 = .ok (.iload_n 3, 1) := by decide +kernel
theorem dX9_order_66 : decode cX9_order 66 = .ok (.iconst 1, 1) := by decide +kernel
theorem dX9_order_67 : decode cX9_order 67 = .ok (.if_icmp .ne 12, 3) := by decide +kernel
theorem dX9_order_70 : decode cX9_order 70 = .ok (.aload_n 0, 1) := by decide +kernel
theorem dX9_order_71 : decode cX9_order 71 = .ok (.getfield 73, 3) := by decide +kernel
theorem dX9_order_74 : decode cX9_order 74 = .ok (.iload_n 2, 1) := by decide +kernel
theorem dX9_order_75 : decode cX9_order 75 = .ok (.iaload, 1) := by decide +kernel
theorem dX9_order_76 : decode cX9_order 76 = .ok (.goto 9, 3) := by decide +kernel
theorem dX9_order_79 : decode cX9_order 79 = .ok (.aload_n 0, 1) := by decide +kernel
theorem dX9_order_80 : decode cX9_order 80 = .ok (.getfield 76, 3) := by decide +kernel
theorem dX9_order_83 : decode cX9_order 83 = .ok (.iload_n 2, 1) := by decide +kernel
theorem dX9_order_84 : decode cX9_order 84 = .ok (.iaload, 1) := by decide +kernel
theorem dX9_order_85 : decode cX9_order 85 = .ok (.ireturn, 1) := by decide +kernel
theorem dX9_counts_0 : decode cX9_counts 0 = .ok (.iload_n 1, 1) := by decide +kernel
theorem dX9_counts_1 : decode cX9_counts 1 = .ok (.ifCond .ne 13, 3) := by decide +kernel
theorem dX9_counts_4 : decode cX9_counts 4 = .ok (.aload_n 0, 1) := by decide +kernel
theorem dX9_counts_5 : decode cX9_counts 5 = .ok (.dup, 1) := by decide +kernel
theorem dX9_counts_6 : decode cX9_counts 6 = .ok (.getfield 344, 3) := by decide +kernel
theorem dX9_counts_9 : decode cX9_counts 9 = .ok (.iconst 1, 1) := by decide +kernel
theorem dX9_counts_10 : decode cX9_counts 10 = .ok (.iadd, 1) := by decide +kernel
theorem dX9_counts_11 : decode cX9_counts 11 = .ok (.putfield 344, 3) := by decide +kernel
theorem dX9_counts_14 : decode cX9_counts 14 = .ok (.iconst 0, 1) := by decide +kernel
theorem dX9_counts_15 : decode cX9_counts 15 = .ok (.istore 4, 2) := by decide +kernel
theorem dX9_counts_17 : decode cX9_counts 17 = .ok (.iload 4, 2) := by decide +kernel
theorem dX9_counts_19 : decode cX9_counts 19 = .ok (.aload_n 0, 1) := by decide +kernel
theorem dX9_counts_20 : decode cX9_counts 20 = .ok (.invokevirtual 105, 3) := by decide +kernel
theorem dX9_counts_23 : decode cX9_counts 23 = .ok (.if_icmp .ge 66, 3) := by decide +kernel
theorem dX9_counts_26 : decode cX9_counts 26 = .ok (.iload_n 1, 1) := by decide +kernel
theorem dX9_counts_27 : decode cX9_counts 27 = .ok (.iload 4, 2) := by decide +kernel
theorem dX9_counts_29 : decode cX9_counts 29 = .ok (.invokestatic 269, 3) := by decide +kernel
theorem dX9_counts_32 : decode cX9_counts 32 = .ok (.ifCond .eq 51, 3) := by decide +kernel
theorem dX9_counts_35 : decode cX9_counts 35 = .ok (.aload_n 0, 1) := by decide +kernel
theorem dX9_counts_36 : decode cX9_counts 36 = .ok (.iload 4, 2) := by decide +kernel
theorem dX9_counts_38 : decode cX9_counts 38 = .ok (.iload_n 2, 1) := by decide +kernel
theorem dX9_counts_39 : decode cX9_counts 39 = .ok (.invokevirtual 300, 3) := by decide +kernel
theorem dX9_counts_42 : decode cX9_counts 42 = .ok (.ifCond .ne 6, 3) := by decide +kernel
theorem dX9_counts_45 : decode cX9_counts 45 = .ok (.goto 38, 3) := by decide +kernel
theorem dX9_counts_48 : decode cX9_counts 48 = .ok (.aload_n 0, 1) := by decide +kernel
theorem dX9_counts_49 : decode cX9_counts 49 = .ok (.iload 4, 2) := by decide +kernel
theorem dX9_counts_51 : decode cX9_counts 51 = .ok (.iload_n 3, 1) := by decide +kernel
theorem dX9_counts_52 : decode cX9_counts 52 = .ok (.invokevirtual 331, 3) := by decide +kernel
theorem dX9_counts_55 : decode cX9_counts 55 = .ok (.istore 5, 2) := by decide +kernel
theorem dX9_counts_57 : decode cX9_counts 57 = .ok (.iload 5, 2) := by decide +kernel
theorem dX9_counts_59 : decode cX9_counts 59 = .ok (.ifCond .eq 24, 3) := by decide +kernel
theorem dX9_counts_62 : decode cX9_counts 62 = .ok (.aload_n 0, 1) := by decide +kernel
theorem dX9_counts_63 : decode cX9_counts 63 = .ok (.iload_n 1, 1) := by decide +kernel
theorem dX9_counts_64 : decode cX9_counts 64 = .ok (.iconst 1, 1) := by decide +kernel
theorem dX9_counts_65 : decode cX9_counts 65 = .ok (.iload 4, 2) := by decide +kernel
theorem dX9_counts_67 : decode cX9_counts 67 = .ok (.ishl, 1) := by decide +kernel
theorem dX9_counts_68 : decode cX9_counts 68 = .ok (.iconst (-1), 1) := by decide +kernel
theorem dX9_counts_69 : decode cX9_counts 69 = .ok (.ixor, 1) := by decide +kernel
theorem dX9_counts_70 : decode cX9_counts 70 = .ok (.iand, 1) := by decide +kernel
theorem dX9_counts_71 : decode cX9_counts 71 = .ok (.aload_n 0, 1) := by decide +kernel
theorem dX9_counts_72 : decode cX9_counts 72 = .ok (.iload 4, 2) := by decide +kernel
theorem dX9_counts_74 : decode cX9_counts 74 = .ok (.iload_n 2, 1) := by decide +kernel
theorem dX9_counts_75 : decode cX9_counts 75 = .ok (.invokevirtual 297, 3) := by decide +kernel
theorem dX9_counts_78 : decode cX9_counts 78 = .ok (.iload 5, 2) := by decide +kernel
theorem dX9_counts_80 : decode cX9_counts 80 = .ok (.invokevirtual 347, 3) := by decide +kernel
theorem dX9_counts_83 : decode cX9_counts 83 = .ok (.iinc 4 1, 3) := by decide +kernel
theorem dX9_counts_86 : decode cX9_counts 86 = .ok (.goto (-69), 3) := by decide +kernel
theorem dX9_counts_89 : decode cX9_counts 89 = .ok (.return_, 1) := by decide +kernel
theorem dX9_orders_0 : decode cX9_orders 0 = .ok (.aload_n 0, 1) := by decide +kernel
theorem dX9_orders_1 : decode cX9_orders 1 = .ok (.iload_n 1, 1) := by decide +kernel
theorem dX9_orders_2 : decode cX9_orders 2 = .ok (.invokevirtual 316, 3) := by decide +kernel
theorem dX9_orders_5 : decode cX9_orders 5 = .ok (.ifCond .eq 12, 3) := by decide +kernel
theorem dX9_orders_8 : decode cX9_orders 8 = .ok (.iload_n 1, 1) := by decide +kernel
theorem dX9_orders_9 : decode cX9_orders 9 = .ok (.invokestatic 260, 3) := by decide +kernel
theorem dX9_orders_12 : decode cX9_orders 12 = .ok (.bipush 7, 2) := by decide +kernel
theorem dX9_orders_14 : decode cX9_orders 14 = .ok (.if_icmp .le 5, 3) := by decide +kernel
theorem dX9_orders_17 : decode cX9_orders 17 = .ok (.iconst (-1), 1) := by decide +kernel
theorem dX9_orders_18 : decode cX9_orders 18 = .ok (.ireturn, 1) := by decide +kernel
theorem dX9_orders_19 : decode cX9_orders 19 = .ok (.aload_n 0, 1) := by decide +kernel
theorem dX9_orders_20 : decode cX9_orders 20 = .ok (.invokevirtual 279, 3) := by decide +kernel
theorem dX9_orders_23 : decode cX9_orders 23 = .ok (.aload_n 0, 1) := by decide +kernel
theorem dX9_orders_24 : decode cX9_orders 24 = .ok (.iconst 0, 1) := by decide +kernel
theorem dX9_orders_25 : decode cX9_orders 25 = .ok (.putfield 344, 3) := by decide +kernel
theorem dX9_orders_28 : decode cX9_orders 28 = .ok (.aload_n 0, 1) := by decide +kernel
theorem dX9_orders_29 : decode cX9_orders 29 = .ok (.iload_n 1, 1) := by decide +kernel
theorem dX9_orders_30 : decode cX9_orders 30 = .ok (.aload_n 0, 1) := by decide +kernel
theorem dX9_orders_31 : decode cX9_orders 31 = .ok (.invokevirtual 306, 3) := by decide +kernel
theorem dX9_orders_34 : decode cX9_orders 34 = .ok (.iconst 1, 1) := by decide +kernel
theorem dX9_orders_35 : decode cX9_orders 35 = .ok (.aload_n 0, 1) := by decide +kernel
theorem dX9_orders_36 : decode cX9_orders 36 = .ok (.invokevirtual 309, 3) := by decide +kernel
theorem dX9_orders_39 : decode cX9_orders 39 = .ok (.ishl, 1) := by decide +kernel
theorem dX9_orders_40 : decode cX9_orders 40 = .ok (.invokevirtual 347, 3) := by decide +kernel
theorem dX9_orders_43 : decode cX9_orders 43 = .ok (.aload_n 0, 1) := by decide +kernel
theorem dX9_orders_44 : decode cX9_orders 44 = .ok (.getfield 344, 3) := by decide +kernel
theorem dX9_orders_47 : decode cX9_orders 47 = .ok (.ireturn, 1) := by decide +kernel
theorem dX9_wins_0 : decode cX9_wins 0 = .ok (.iconst 0, 1) := by decide +kernel
theorem dX9_wins_1 : decode cX9_wins 1 = .ok (.istore 4, 2) := by decide +kernel
theorem dX9_wins_3 : decode cX9_wins 3 = .ok (.iload 4, 2) := by decide +kernel
theorem dX9_wins_5 : decode cX9_wins 5 = .ok (.aload_n 0, 1) := by decide +kernel
theorem dX9_wins_6 : decode cX9_wins 6 = .ok (.invokevirtual 105, 3) := by decide +kernel
theorem dX9_wins_9 : decode cX9_wins 9 = .ok (.if_icmp .ge 67, 3) := by decide +kernel
theorem dX9_wins_12 : decode cX9_wins 12 = .ok (.iload_n 1, 1) := by decide +kernel
theorem dX9_wins_13 : decode cX9_wins 13 = .ok (.iload 4, 2) := by decide +kernel
theorem dX9_wins_15 : decode cX9_wins 15 = .ok (.invokestatic 269, 3) := by decide +kernel
theorem dX9_wins_18 : decode cX9_wins 18 = .ok (.ifCond .ne 52, 3) := by decide +kernel
theorem dX9_wins_21 : decode cX9_wins 21 = .ok (.aload_n 0, 1) := by decide +kernel
theorem dX9_wins_22 : decode cX9_wins 22 = .ok (.getfield 61, 3) := by decide +kernel
theorem dX9_wins_25 : decode cX9_wins 25 = .ok (.iload 4, 2) := by decide +kernel
theorem dX9_wins_27 : decode cX9_wins 27 = .ok (.iaload, 1) := by decide +kernel
theorem dX9_wins_28 : decode cX9_wins 28 = .ok (.iload_n 3, 1) := by decide +kernel
theorem dX9_wins_29 : decode cX9_wins 29 = .ok (.invokestatic 269, 3) := by decide +kernel
theorem dX9_wins_32 : decode cX9_wins 32 = .ok (.ifCond .eq 38, 3) := by decide +kernel
theorem dX9_wins_35 : decode cX9_wins 35 = .ok (.aload_n 0, 1) := by decide +kernel
theorem dX9_wins_36 : decode cX9_wins 36 = .ok (.iload 4, 2) := by decide +kernel
theorem dX9_wins_38 : decode cX9_wins 38 = .ok (.iload_n 2, 1) := by decide +kernel
theorem dX9_wins_39 : decode cX9_wins 39 = .ok (.invokevirtual 300, 3) := by decide +kernel
theorem dX9_wins_42 : decode cX9_wins 42 = .ok (.ifCond .eq 28, 3) := by decide +kernel
theorem dX9_wins_45 : decode cX9_wins 45 = .ok (.aload_n 0, 1) := by decide +kernel
theorem dX9_wins_46 : decode cX9_wins 46 = .ok (.iload_n 1, 1) := by decide +kernel
theorem dX9_wins_47 : decode cX9_wins 47 = .ok (.iconst 1, 1) := by decide +kernel
theorem dX9_wins_48 : decode cX9_wins 48 = .ok (.iload 4, 2) := by decide +kernel
theorem dX9_wins_50 : decode cX9_wins 50 = .ok (.ishl, 1) := by decide +kernel
theorem dX9_wins_51 : decode cX9_wins 51 = .ok (.ior, 1) := by decide +kernel
theorem dX9_wins_52 : decode cX9_wins 52 = .ok (.aload_n 0, 1) := by decide +kernel
theorem dX9_wins_53 : decode cX9_wins 53 = .ok (.iload 4, 2) := by decide +kernel
theorem dX9_wins_55 : decode cX9_wins 55 = .ok (.iload_n 2, 1) := by decide +kernel
theorem dX9_wins_56 : decode cX9_wins 56 = .ok (.invokevirtual 297, 3) := by decide +kernel
theorem dX9_wins_59 : decode cX9_wins 59 = .ok (.iconst 1, 1) := by decide +kernel
theorem dX9_wins_60 : decode cX9_wins 60 = .ok (.iload_n 3, 1) := by decide +kernel
theorem dX9_wins_61 : decode cX9_wins 61 = .ok (.isub, 1) := by decide +kernel
theorem dX9_wins_62 : decode cX9_wins 62 = .ok (.invokevirtual 351, 3) := by decide +kernel
theorem dX9_wins_65 : decode cX9_wins 65 = .ok (.ifCond .ne 5, 3) := by decide +kernel
theorem dX9_wins_68 : decode cX9_wins 68 = .ok (.iconst 1, 1) := by decide +kernel
theorem dX9_wins_69 : decode cX9_wins 69 = .ok (.ireturn, 1) := by decide +kernel
theorem dX9_wins_70 : decode cX9_wins 70 = .ok (.iinc 4 1, 3) := by decide +kernel
theorem dX9_wins_73 : decode cX9_wins 73 = .ok (.goto (-70), 3) := by decide +kernel
theorem dX9_wins_76 : decode cX9_wins 76 = .ok (.iconst 0, 1) := by decide +kernel
theorem dX9_wins_77 : decode cX9_wins 77 = .ok (.ireturn, 1) := by decide +kernel
theorem dX9_duel_0 : decode cX9_duel 0 = .ok (.iload_n 1, 1) := by decide +kernel
theorem dX9_duel_1 : decode cX9_duel 1 = .ok (.iconst 0, 1) := by decide +kernel
theorem dX9_duel_2 : decode cX9_duel 2 = .ok (.iconst 1, 1) := by decide +kernel
theorem dX9_duel_3 : decode cX9_duel 3 = .ok (.invokestatic 94, 3) := by decide +kernel
theorem dX9_duel_6 : decode cX9_duel 6 = .ok (.ifCond .eq 21, 3) := by decide +kernel
theorem dX9_duel_9 : decode cX9_duel 9 = .ok (.aload_n 0, 1) := by decide +kernel
theorem dX9_duel_10 : decode cX9_duel 10 = .ok (.invokevirtual 105, 3) := by decide +kernel
theorem dX9_duel_13 : decode cX9_duel 13 = .ok (.aload_n 0, 1) := by decide +kernel
theorem dX9_duel_14 : decode cX9_duel 14 = .ok (.getfield 20, 3) := by decide +kernel
theorem dX9_duel_17 : decode cX9_duel 17 = .ok (.sipush 134, 3) := by decide +kernel
theorem dX9_duel_20 : decode cX9_duel 20 = .ok (.iaload, 1) := by decide +kernel
theorem dX9_duel_21 : decode cX9_duel 21 = .ok (.isub, 1) := by decide +kernel
theorem dX9_duel_22 : decode cX9_duel 22 = .ok (.bipush 7, 2) := by decide +kernel
theorem dX9_duel_24 : decode cX9_duel 24 = .ok (.if_icmp .le 5, 3) := by decide +kernel
theorem dX9_duel_27 : decode cX9_duel 27 = .ok (.iconst (-1), 1) := by decide +kernel
theorem dX9_duel_28 : decode cX9_duel 28 = .ok (.ireturn, 1) := by decide +kernel
theorem dX9_duel_29 : decode cX9_duel 29 = .ok (.aload_n 0, 1) := by decide +kernel
theorem dX9_duel_30 : decode cX9_duel 30 = .ok (.invokevirtual 279, 3) := by decide +kernel
theorem dX9_duel_33 : decode cX9_duel 33 = .ok (.aload_n 0, 1) := by decide +kernel
theorem dX9_duel_34 : decode cX9_duel 34 = .ok (.invokevirtual 309, 3) := by decide +kernel
theorem dX9_duel_37 : decode cX9_duel 37 = .ok (.ifCond .ne 7, 3) := by decide +kernel
theorem dX9_duel_40 : decode cX9_duel 40 = .ok (.iconst 1, 1) := by decide +kernel
theorem dX9_duel_41 : decode cX9_duel 41 = .ok (.goto 4, 3) := by decide +kernel
theorem dX9_duel_44 : decode cX9_duel 44 = .ok (.iconst 0, 1) := by decide +kernel
theorem dX9_duel_45 : decode cX9_duel 45 = .ok (.istore_n 2, 1) := by decide +kernel
theorem dX9_duel_46 : decode cX9_duel 46 = .ok (.aload_n 0, 1) := by decide +kernel
theorem dX9_duel_47 : decode cX9_duel 47 = .ok (.invokevirtual 303, 3) := by decide +kernel
theorem dX9_duel_50 : decode cX9_duel 50 = .ok (.istore_n 3, 1) := by decide +kernel
theorem dX9_duel_51 : decode cX9_duel 51 = .ok (.iconst (-1), 1) := by decide +kernel
theorem dX9_duel_52 : decode cX9_duel 52 = .ok (.istore 4, 2) := by decide +kernel
theorem dX9_duel_54 : decode cX9_duel 54 = .ok (.aload_n 0, 1) := by decide +kernel
theorem dX9_duel_55 : decode cX9_duel 55 = .ok (.invokevirtual 105, 3) := by decide +kernel
theorem dX9_duel_58 : decode cX9_duel 58 = .ok (.iconst 1, 1) := by decide +kernel
theorem dX9_duel_59 : decode cX9_duel 59 = .ok (.isub, 1) := by decide +kernel
theorem dX9_duel_60 : decode cX9_duel 60 = .ok (.istore 5, 2) := by decide +kernel
theorem dX9_duel_62 : decode cX9_duel 62 = .ok (.iload 5, 2) := by decide +kernel
theorem dX9_duel_64 : decode cX9_duel 64 = .ok (.ifCond .lt 75, 3) := by decide +kernel
theorem dX9_duel_67 : decode cX9_duel 67 = .ok (.iload_n 3, 1) := by decide +kernel
theorem dX9_duel_68 : decode cX9_duel 68 = .ok (.iload 5, 2) := by decide +kernel
theorem dX9_duel_70 : decode cX9_duel 70 = .ok (.invokestatic 269, 3) := by decide +kernel
theorem dX9_duel_73 : decode cX9_duel 73 = .ok (.ifCond .ne 60, 3) := by decide +kernel
theorem dX9_duel_76 : decode cX9_duel 76 = .ok (.aload_n 0, 1) := by decide +kernel
theorem dX9_duel_77 : decode cX9_duel 77 = .ok (.getfield 61, 3) := by decide +kernel
theorem dX9_duel_80 : decode cX9_duel 80 = .ok (.iload 5, 2) := by decide +kernel
theorem dX9_duel_82 : decode cX9_duel 82 = .ok (.iaload, 1) := by decide +kernel
theorem dX9_duel_83 : decode cX9_duel 83 = .ok (.iload_n 2, 1) := by decide +kernel
theorem dX9_duel_84 : decode cX9_duel 84 = .ok (.invokestatic 269, 3) := by decide +kernel
theorem dX9_duel_87 : decode cX9_duel 87 = .ok (.ifCond .eq 46, 3) := by decide +kernel
theorem dX9_duel_90 : decode cX9_duel 90 = .ok (.aload_n 0, 1) := by decide +kernel
theorem dX9_duel_91 : decode cX9_duel 91 = .ok (.iload 5, 2) := by decide +kernel
theorem dX9_duel_93 : decode cX9_duel 93 = .ok (.aload_n 0, 1) := by decide +kernel
theorem dX9_duel_94 : decode cX9_duel 94 = .ok (.invokevirtual 306, 3) := by decide +kernel
theorem dX9_duel_97 : decode cX9_duel 97 = .ok (.invokevirtual 300, 3) := by decide +kernel
theorem dX9_duel_100 : decode cX9_duel 100 = .ok (.ifCond .eq 33, 3) := by decide +kernel
theorem dX9_duel_103 : decode cX9_duel 103 = .ok (.aload_n 0, 1) := by decide +kernel
theorem dX9_duel_104 : decode cX9_duel 104 = .ok (.iload_n 3, 1) := by decide +kernel
theorem dX9_duel_105 : decode cX9_duel 105 = .ok (.iconst 1, 1) := by decide +kernel
theorem dX9_duel_106 : decode cX9_duel 106 = .ok (.iload 5, 2) := by decide +kernel
theorem dX9_duel_108 : decode cX9_duel 108 = .ok (.ishl, 1) := by decide +kernel
theorem dX9_duel_109 : decode cX9_duel 109 = .ok (.ior, 1) := by decide +kernel
theorem dX9_duel_110 : decode cX9_duel 110 = .ok (.aload_n 0, 1) := by decide +kernel
theorem dX9_duel_111 : decode cX9_duel 111 = .ok (.iload 5, 2) := by decide +kernel
theorem dX9_duel_113 : decode cX9_duel 113 = .ok (.aload_n 0, 1) := by decide +kernel
theorem dX9_duel_114 : decode cX9_duel 114 = .ok (.invokevirtual 306, 3) := by decide +kernel
theorem dX9_duel_117 : decode cX9_duel 117 = .ok (.invokevirtual 297, 3) := by decide +kernel
theorem dX9_duel_120 : decode cX9_duel 120 = .ok (.iconst 1, 1) := by decide +kernel
theorem dX9_duel_121 : decode cX9_duel 121 = .ok (.iload_n 2, 1) := by decide +kernel
theorem dX9_duel_122 : decode cX9_duel 122 = .ok (.isub, 1) := by decide +kernel
theorem dX9_duel_123 : decode cX9_duel 123 = .ok (.invokevirtual 351, 3) := by decide +kernel
theorem dX9_duel_126 : decode cX9_duel 126 = .ok (.ifCond .ne 7, 3) := by decide +kernel
theorem dX9_duel_129 : decode cX9_duel 129 = .ok (.iload 5, 2) := by decide +kernel
theorem dX9_duel_131 : decode cX9_duel 131 = .ok (.istore 4, 2) := by decide +kernel
theorem dX9_duel_133 : decode cX9_duel 133 = .ok (.iinc 5 (-1), 3) := by decide +kernel
theorem dX9_duel_136 : decode cX9_duel 136 = .ok (.goto (-74), 3) := by decide +kernel
theorem dX9_duel_139 : decode cX9_duel 139 = .ok (.iload_n 1, 1) := by decide +kernel
theorem dX9_duel_140 : decode cX9_duel 140 = .ok (.iconst 1, 1) := by decide +kernel
theorem dX9_duel_141 : decode cX9_duel 141 = .ok (.if_icmp .ne 8, 3) := by decide +kernel
theorem dX9_duel_144 : decode cX9_duel 144 = .ok (.iload 4, 2) := by decide +kernel
theorem dX9_duel_146 : decode cX9_duel 146 = .ok (.goto 16, 3) := by decide +kernel
theorem dX9_duel_149 : decode cX9_duel 149 = .ok (.iload 4, 2) := by decide +kernel
theorem dX9_duel_151 : decode cX9_duel 151 = .ok (.iconst (-1), 1) := by decide +kernel
theorem dX9_duel_152 : decode cX9_duel 152 = .ok (.if_icmp .ne 9, 3) := by decide +kernel
theorem dX9_duel_155 : decode cX9_duel 155 = .ok (.iconst 1, 1) := by decide +kernel
theorem dX9_duel_156 : decode cX9_duel 156 = .ok (.iload_n 2, 1) := by decide +kernel
theorem dX9_duel_157 : decode cX9_duel 157 = .ok (.isub, 1) := by decide +kernel
theorem dX9_duel_158 : decode cX9_duel 158 = .ok (.goto 4, 3) := by decide +kernel
theorem dX9_duel_161 : decode cX9_duel 161 = .ok (.iload_n 2, 1) := by decide +kernel
theorem dX9_duel_162 : decode cX9_duel 162 = .ok (.ireturn, 1) := by decide +kernel
theorem dX9_isEvening_0 : decode cX9_isEvening 0 = .ok (.aload_n 0, 1) := by decide +kernel
theorem dX9_isEvening_1 : decode cX9_isEvening 1 = .ok (.getfield 67, 3) := by decide +kernel
theorem dX9_isEvening_4 : decode cX9_isEvening 4 = .ok (.iconst 5, 1) := by decide +kernel
theorem dX9_isEvening_5 : decode cX9_isEvening 5 = .ok (.iload_n 1, 1) := by decide +kernel
theorem dX9_isEvening_6 : decode cX9_isEvening 6 = .ok (.imul, 1) := by decide +kernel
theorem dX9_isEvening_7 : decode cX9_isEvening 7 = .ok (.iconst 4, 1) := by decide +kernel
theorem dX9_isEvening_8 : decode cX9_isEvening 8 = .ok (.iadd, 1) := by decide +kernel
theorem dX9_isEvening_9 : decode cX9_isEvening 9 = .ok (.iaload, 1) := by decide +kernel
theorem dX9_isEvening_10 : decode cX9_isEvening 10 = .ok (.ldc 146, 2) := by decide +kernel
theorem dX9_isEvening_12 : decode cX9_isEvening 12 = .ok (.if_icmp .ge 7, 3) := by decide +kernel
theorem dX9_isEvening_15 : decode cX9_isEvening 15 = .ok (.iconst 1, 1) := by decide +kernel
theorem dX9_isEvening_16 : decode cX9_isEvening 16 = .ok (.goto 4, 3) := by decide +kernel
theorem dX9_isEvening_19 : decode cX9_isEvening 19 = .ok (.iconst 0, 1) := by decide +kernel
theorem dX9_isEvening_20 : decode cX9_isEvening 20 = .ok (.ireturn, 1) := by decide +kernel
theorem dX9_winters_0 : decode cX9_winters 0 = .ok (.iconst 1, 1) := by decide +kernel
theorem dX9_winters_1 : decode cX9_winters 1 = .ok (.aload_n 0, 1) := by decide +kernel
theorem dX9_winters_2 : decode cX9_winters 2 = .ok (.invokevirtual 105, 3) := by decide +kernel
theorem dX9_winters_5 : decode cX9_winters 5 = .ok (.ishl, 1) := by decide +kernel
theorem dX9_winters_6 : decode cX9_winters 6 = .ok (.istore_n 2, 1) := by decide +kernel
theorem dX9_winters_7 : decode cX9_winters 7 = .ok (.iconst 0, 1) := by decide +kernel
theorem dX9_winters_8 : decode cX9_winters 8 = .ok (.istore_n 3, 1) := by decide +kernel
theorem dX9_winters_9 : decode cX9_winters 9 = .ok (.iload_n 3, 1) := by decide +kernel
theorem dX9_winters_10 : decode cX9_winters 10 = .ok (.iload_n 2, 1) := by decide +kernel
theorem dX9_winters_11 : decode cX9_winters 11 = .ok (.if_icmp .ge 16, 3) := by decide +kernel
theorem dX9_winters_14 : decode cX9_winters 14 = .ok (.aload_n 0, 1) := by decide +kernel
theorem dX9_winters_15 : decode cX9_winters 15 = .ok (.getfield 82, 3) := by decide +kernel
theorem dX9_winters_18 : decode cX9_winters 18 = .ok (.iload_n 3, 1) := by decide +kernel
theorem dX9_winters_19 : decode cX9_winters 19 = .ok (.iconst 0, 1) := by decide +kernel
theorem dX9_winters_20 : decode cX9_winters 20 = .ok (.iastore, 1) := by decide +kernel
theorem dX9_winters_21 : decode cX9_winters 21 = .ok (.iinc 3 1, 3) := by decide +kernel
