theorem dX0_init_0 : decode cX0_init 0 = .ok (.aload_n 0, 1) := by decide +kernel
theorem dX0_init_1 : decode cX0_init 1 = .ok (.invokespecial 3, 3) := by decide +kernel
theorem dX0_init_4 : decode cX0_init 4 = .ok (.aload_n 0, 1) := by decide +kernel
theorem dX0_init_5 : decode cX0_init 5 = .ok (.bipush 10, 2) := by decide +kernel
theorem dX0_init_7 : decode cX0_init 7 = .ok (.newarray .int, 2) := by decide +kernel
theorem dX0_init_9 : decode cX0_init 9 = .ok (.putfield 9, 3) := by decide +kernel
theorem dX0_init_12 : decode cX0_init 12 = .ok (.aload_n 0, 1) := by decide +kernel
theorem dX0_init_13 : decode cX0_init 13 = .ok (.bipush 10, 2) := by decide +kernel
theorem dX0_init_15 : decode cX0_init 15 = .ok (.newarray .int, 2) := by decide +kernel
theorem dX0_init_17 : decode cX0_init 17 = .ok (.putfield 15, 3) := by decide +kernel
theorem dX0_init_20 : decode cX0_init 20 = .ok (.aload_n 0, 1) := by decide +kernel
theorem dX0_init_21 : decode cX0_init 21 = .ok (.iconst 0, 1) := by decide +kernel
theorem dX0_init_22 : decode cX0_init 22 = .ok (.putfield 18, 3) := by decide +kernel
theorem dX0_init_25 : decode cX0_init 25 = .ok (.aload_n 0, 1) := by decide +kernel
theorem dX0_init_26 : decode cX0_init 26 = .ok (.iconst 0, 1) := by decide +kernel
theorem dX0_init_27 : decode cX0_init 27 = .ok (.putfield 22, 3) := by decide +kernel
theorem dX0_init_30 : decode cX0_init 30 = .ok (.return_, 1) := by decide +kernel
theorem dX0_agree_0 : decode cX0_agree 0 = .ok (.aload_n 1, 1) := by decide +kernel
theorem dX0_agree_1 : decode cX0_agree 1 = .ok (.getfield 25, 3) := by decide +kernel
theorem dX0_agree_4 : decode cX0_agree 4 = .ok (.astore_n 3, 1) := by decide +kernel
theorem dX0_agree_5 : decode cX0_agree 5 = .ok (.aload_n 1, 1) := by decide +kernel
theorem dX0_agree_6 : decode cX0_agree 6 = .ok (.getfield 31, 3) := by decide +kernel
theorem dX0_agree_9 : decode cX0_agree 9 = .ok (.iconst 0, 1) := by decide +kernel
theorem dX0_agree_10 : decode cX0_agree 10 = .ok (.aload_n 0, 1) := by decide +kernel
theorem dX0_agree_11 : decode cX0_agree 11 = .ok (.getfield 9, 3) := by decide +kernel
theorem dX0_agree_14 : decode cX0_agree 14 = .ok (.iconst 0, 1) := by decide +kernel
theorem dX0_agree_15 : decode cX0_agree 15 = .ok (.bipush 10, 2) := by decide +kernel
theorem dX0_agree_17 : decode cX0_agree 17 = .ok (.invokestatic 34, 3) := by decide +kernel
theorem dX0_agree_20 : decode cX0_agree 20 = .ok (.iconst 1, 1) := by decide +kernel
theorem dX0_agree_21 : decode cX0_agree 21 = .ok (.istore 4, 2) := by decide +kernel
theorem dX0_agree_23 : decode cX0_agree 23 = .ok (.iconst 0, 1) := by decide +kernel
theorem dX0_agree_24 : decode cX0_agree 24 = .ok (.istore 5, 2) := by decide +kernel
theorem dX0_agree_26 : decode cX0_agree 26 = .ok (.iload 5, 2) := by decide +kernel
theorem dX0_agree_28 : decode cX0_agree 28 = .ok (.aload_n 1, 1) := by decide +kernel
theorem dX0_agree_29 : decode cX0_agree 29 = .ok (.getfield 40, 3) := by decide +kernel
theorem dX0_agree_32 : decode cX0_agree 32 = .ok (.if_icmp .gt 113, 3) := by decide +kernel
theorem dX0_agree_35 : decode cX0_agree 35 = .ok (.iload 4, 2) := by decide +kernel
theorem dX0_agree_37 : decode cX0_agree 37 = .ok (.ifCond .eq 108, 3) := by decide +kernel
theorem dX0_agree_40 : decode cX0_agree 40 = .ok (.iconst 0, 1) := by decide +kernel
theorem dX0_agree_41 : decode cX0_agree 41 = .ok (.istore 4, 2) := by decide +kernel
theorem dX0_agree_43 : decode cX0_agree 43 = .ok (.iconst 0, 1) := by decide +kernel
theorem dX0_agree_44 : decode cX0_agree 44 = .ok (.istore 6, 2) := by decide +kernel
theorem dX0_agree_46 : decode cX0_agree 46 = .ok (.iload 6, 2) := by decide +kernel
theorem dX0_agree_48 : decode cX0_agree 48 = .ok (.aload_n 3, 1) := by decide +kernel
theorem dX0_agree_49 : decode cX0_agree 49 = .ok (.getfield 43, 3) := by decide +kernel
theorem dX0_agree_52 : decode cX0_agree 52 = .ok (.if_icmp .ge 87, 3) := by decide +kernel
theorem dX0_agree_55 : decode cX0_agree 55 = .ok (.aload_n 3, 1) := by decide +kernel
theorem dX0_agree_56 : decode cX0_agree 56 = .ok (.getfield 48, 3) := by decide +kernel
theorem dX0_agree_59 : decode cX0_agree 59 = .ok (.iload 6, 2) := by decide +kernel
theorem dX0_agree_61 : decode cX0_agree 61 = .ok (.iaload, 1) := by decide +kernel
theorem dX0_agree_62 : decode cX0_agree 62 = .ok (.istore 7, 2) := by decide +kernel
theorem dX0_agree_64 : decode cX0_agree 64 = .ok (.aload_n 0, 1) := by decide +kernel
theorem dX0_agree_65 : decode cX0_agree 65 = .ok (.getfield 9, 3) := by decide +kernel
theorem dX0_agree_68 : decode cX0_agree 68 = .ok (.aload_n 3, 1) := by decide +kernel
theorem dX0_agree_69 : decode cX0_agree 69 = .ok (.getfield 51, 3) := by decide +kernel
theorem dX0_agree_72 : decode cX0_agree 72 = .ok (.iload 6, 2) := by decide +kernel
theorem dX0_agree_74 : decode cX0_agree 74 = .ok (.iaload, 1) := by decide +kernel
theorem dX0_agree_75 : decode cX0_agree 75 = .ok (.iaload, 1) := by decide +kernel
theorem dX0_agree_76 : decode cX0_agree 76 = .ok (.aload_n 3, 1) := by decide +kernel
theorem dX0_agree_77 : decode cX0_agree 77 = .ok (.getfield 54, 3) := by decide +kernel
theorem dX0_agree_80 : decode cX0_agree 80 = .ok (.iload 6, 2) := by decide +kernel
theorem dX0_agree_82 : decode cX0_agree 82 = .ok (.iaload, 1) := by decide +kernel
theorem dX0_agree_83 : decode cX0_agree 83 = .ok (.iadd, 1) := by decide +kernel
theorem dX0_agree_84 : decode cX0_agree 84 = .ok (.istore 8, 2) := by decide +kernel
theorem dX0_agree_86 : decode cX0_agree 86 = .ok (.iload_n 2, 1) := by decide +kernel
theorem dX0_agree_87 : decode cX0_agree 87 = .ok (.iload 6, 2) := by decide +kernel
theorem dX0_agree_89 : decode cX0_agree 89 = .ok (.ishr, 1) := by decide +kernel
theorem dX0_agree_90 : decode cX0_agree 90 = .ok (.iconst 1, 1) := by decide +kernel
theorem dX0_agree_91 : decode cX0_agree 91 = .ok (.iand, 1) := by decide +kernel
theorem dX0_agree_92 : decode cX0_agree 92 = .ok (.ifCond .eq 41, 3) := by decide +kernel
theorem dX0_agree_95 : decode cX0_agree 95 = .ok (.iload 8, 2) := by decide +kernel
theorem dX0_agree_97 : decode cX0_agree 97 = .ok (.aload_n 0, 1) := by decide +kernel
theorem dX0_agree_98 : decode cX0_agree 98 = .ok (.getfield 9, 3) := by decide +kernel
theorem dX0_agree_101 : decode cX0_agree 101 = .ok (.iload 7, 2) := by decide +kernel
theorem dX0_agree_103 : decode cX0_agree 103 = .ok (.iaload, 1) := by decide +kernel
theorem dX0_agree_104 : decode cX0_agree 104 = .ok (.if_icmp .le 29, 3) := by decide +kernel
theorem dX0_agree_107 : decode cX0_agree 107 = .ok (.iload 8, 2) := by decide +kernel
theorem dX0_agree_109 : decode cX0_agree 109 = .ok (.aload_n 1, 1) := by decide +kernel
theorem dX0_agree_110 : decode cX0_agree 110 = .ok (.getfield 57, 3) := by decide +kernel
theorem dX0_agree_113 : decode cX0_agree 113 = .ok (.iload 7, 2) := by decide +kernel
theorem dX0_agree_115 : decode cX0_agree 115 = .ok (.iaload, 1) := by decide +kernel
theorem dX0_agree_116 : decode cX0_agree 116 = .ok (.if_icmp .le 5, 3) := by decide +kernel
theorem dX0_agree_119 : decode cX0_agree 119 = .ok (.iconst 0, 1) := by decide +kernel
theorem dX0_agree_120 : decode cX0_agree 120 = .ok (.ireturn, 1) := by decide +kernel
theorem dX0_agree_121 : decode cX0_agree 121 = .ok (.aload_n 0, 1) := by decide +kernel
theorem dX0_agree_122 : decode cX0_agree 122 = .ok (.getfield 9, 3) := by decide +kernel
theorem dX0_agree_125 : decode cX0_agree 125 = .ok (.iload 7, 2) := by decide +kernel
theorem dX0_agree_127 : decode cX0_agree 127 = .ok (.iload 8, 2) := by decide +kernel
theorem dX0_agree_129 : decode cX0_agree 129 = .ok (.iastore, 1) := by decide +kernel
theorem dX0_agree_130 : decode cX0_agree 130 = .ok (.iconst 1, 1) := by decide +kernel
theorem dX0_agree_131 : decode cX0_agree 131 = .ok (.istore 4, 2) := by decide +kernel
theorem dX0_agree_133 : decode cX0_agree 133 = .ok (.iinc 6 1, 3) := by decide +kernel
theorem dX0_agree_136 : decode cX0_agree 136 = .ok (.goto (-90), 3) := by decide +kernel
theorem dX0_agree_139 : decode cX0_agree 139 = .ok (.iinc 5 1, 3) := by decide +kernel
theorem dX0_agree_142 : decode cX0_agree 142 = .ok (.goto (-116), 3) := by decide +kernel
theorem dX0_agree_145 : decode cX0_agree 145 = .ok (.iload 4, 2) := by decide +kernel
theorem dX0_agree_147 : decode cX0_agree 147 = .ok (.ifCond .ne 7, 3) := by decide +kernel
theorem dX0_agree_150 : decode cX0_agree 150 = .ok (.iconst 1, 1) := by decide +kernel
theorem dX0_agree_151 : decode cX0_agree 151 = .ok (.goto 4, 3) := by decide +kernel
theorem dX0_agree_154 : decode cX0_agree 154 = .ok (.iconst 0, 1) := by decide +kernel
theorem dX0_agree_155 : decode cX0_agree 155 = .ok (.ireturn, 1) := by decide +kernel
theorem dX0_reckonLate_0 : decode cX0_reckonLate 0 = .ok (.aload_n 1, 1) := by decide +kernel
theorem dX0_reckonLate_1 : decode cX0_reckonLate 1 = .ok (.getfield 25, 3) := by decide +kernel
theorem dX0_reckonLate_4 : decode cX0_reckonLate 4 = .ok (.astore_n 2, 1) := by decide +kernel
theorem dX0_reckonLate_5 : decode cX0_reckonLate 5 = .ok (.aload_n 1, 1) := by decide +kernel
theorem dX0_reckonLate_6 : decode cX0_reckonLate 6 = .ok (.getfield 57, 3) := by decide +kernel
theorem dX0_reckonLate_9 : decode cX0_reckonLate 9 = .ok (.iconst 0, 1) := by decide +kernel
theorem dX0_reckonLate_10 : decode cX0_reckonLate 10 = .ok (.aload_n 0, 1) := by decide +kernel
theorem dX0_reckonLate_11 : decode cX0_reckonLate 11 = .ok (.getfield 15, 3) := by decide +kernel
theorem dX0_reckonLate_14 : decode cX0_reckonLate 14 = .ok (.iconst 0, 1) := by decide +kernel
theorem dX0_reckonLate_15 : decode cX0_reckonLate 15 = .ok (.bipush 10, 2) := by decide +kernel
theorem dX0_reckonLate_17 : decode cX0_reckonLate 17 = .ok (.invokestatic 34, 3) := by decide +kernel
theorem dX0_reckonLate_20 : decode cX0_reckonLate 20 = .ok (.iconst 1, 1) := by decide +kernel
theorem dX0_reckonLate_21 : decode cX0_reckonLate 21 = .ok (.istore_n 3, 1) := by decide +kernel
theorem dX0_reckonLate_22 : decode cX0_reckonLate 22 = .ok (.iconst 0, 1) := by decide +kernel
theorem dX0_reckonLate_23 : decode cX0_reckonLate 23 = .ok (.istore 4, 2) := by decide +kernel
theorem dX0_reckonLate_25 : decode cX0_reckonLate 25 = .ok (.iload 4, 2) := by decide +kernel
theorem dX0_reckonLate_27 : decode cX0_reckonLate 27 = .ok (.aload_n 1, 1) := by decide +kernel
theorem dX0_reckonLate_28 : decode cX0_reckonLate 28 = .ok (.getfield 40, 3) := by decide +kernel
theorem dX0_reckonLate_31 : decode cX0_reckonLate 31 = .ok (.if_icmp .gt 87, 3) := by decide +kernel
theorem dX0_reckonLate_34 : decode cX0_reckonLate 34 = .ok (.iload_n 3, 1) := by decide +kernel
theorem dX0_reckonLate_35 : decode cX0_reckonLate 35 = .ok (.ifCond .eq 83, 3) := by decide +kernel
theorem dX0_reckonLate_38 : decode cX0_reckonLate 38 = .ok (.iconst 0, 1) := by decide +kernel
theorem dX0_reckonLate_39 : decode cX0_reckonLate 39 = .ok (.istore_n 3, 1) := by decide +kernel
theorem dX0_reckonLate_40 : decode cX0_reckonLate 40 = .ok (.iconst 0, 1) := by decide +kernel
theorem dX0_reckonLate_41 : decode cX0_reckonLate 41 = .ok (.istore 5, 2) := by decide +kernel
theorem dX0_reckonLate_43 : decode cX0_reckonLate 43 = .ok (.iload 5, 2) := by decide +kernel
theorem dX0_reckonLate_45 : decode cX0_reckonLate 45 = .ok (.aload_n 2, 1) := by decide +kernel
theorem dX0_reckonLate_46 : decode cX0_reckonLate 46 = .ok (.getfield 43, 3) := by decide +kernel
theorem dX0_reckonLate_49 : decode cX0_reckonLate 49 = .ok (.if_icmp .ge 63, 3) := by decide +kernel
theorem dX0_reckonLate_52 : decode cX0_reckonLate 52 = .ok (.aload_n 2, 1) := by decide +kernel
theorem dX0_reckonLate_53 : decode cX0_reckonLate 53 = .ok (.getfield 51, 3) := by decide +kernel
theorem dX0_reckonLate_56 : decode cX0_reckonLate 56 = .ok (.iload 5, 2) := by decide +kernel
theorem dX0_reckonLate_58 : decode cX0_reckonLate 58 = .ok (.iaload, 1) := by decide +kernel
theorem dX0_reckonLate_59 : decode cX0_reckonLate 59 = .ok (.istore 6, 2) := by decide +kernel
theorem dX0_reckonLate_61 : decode cX0_reckonLate 61 = .ok (.aload_n 0, 1) := by decide +kernel
theorem dX0_reckonLate_62 : decode cX0_reckonLate 62 = .ok (.getfield 15, 3) := by decide +kernel
theorem dX0_reckonLate_65 : decode cX0_reckonLate 65 = .ok (.aload_n 2, 1) := by decide +kernel
theorem dX0_reckonLate_66 : decode cX0_reckonLate 66 = .ok (.getfield 48, 3) := by decide +kernel
theorem dX0_reckonLate_69 : decode cX0_reckonLate 69 = .ok (.iload 5, 2) := by decide +kernel
theorem dX0_reckonLate_71 : decode cX0_reckonLate 71 = .ok (.iaload, 1) := by decide +kernel
theorem dX0_reckonLate_72 : decode cX0_reckonLate 72 = .ok (.iaload, 1) := by decide +kernel
theorem dX0_reckonLate_73 : decode cX0_reckonLate 73 = .ok (.aload_n 2, 1) := by decide +kernel
theorem dX0_reckonLate_74 : decode cX0_reckonLate 74 = .ok (.getfield 54, 3) := by decide +kernel
theorem dX0_reckonLate_77 : decode cX0_reckonLate 77 = .ok (.iload 5, 2) := by decide +kernel
theorem dX0_reckonLate_79 : decode cX0_reckonLate 79 = .ok (.iaload, 1) := by decide +kernel
theorem dX0_reckonLate_80 : decode cX0_reckonLate 80 = .ok (.isub, 1) := by decide +kernel
theorem dX0_reckonLate_81 : decode cX0_reckonLate 81 = .ok (.istore 7, 2) := by decide +kernel
theorem dX0_reckonLate_83 : decode cX0_reckonLate 83 = .ok (.iload 7, 2) := by decide +kernel
theorem dX0_reckonLate_85 : decode cX0_reckonLate 85 = .ok (.aload_n 0, 1) := by decide +kernel
theorem dX0_reckonLate_86 : decode cX0_reckonLate 86 = .ok (.getfield 15, 3) := by decide +kernel
theorem dX0_reckonLate_89 : decode cX0_reckonLate 89 = .ok (.iload 6, 2) := by decide +kernel
theorem dX0_reckonLate_91 : decode cX0_reckonLate 91 = .ok (.iaload, 1) := by decide +kernel
theorem dX0_reckonLate_92 : decode cX0_reckonLate 92 = .ok (.if_icmp .ge 14, 3) := by decide +kernel
theorem dX0_reckonLate_95 : decode cX0_reckonLate 95 = .ok (.aload_n 0, 1) := by decide +kernel
theorem dX0_reckonLate_96 : decode cX0_reckonLate 96 = .ok (.getfield 15, 3) := by decide +kernel
theorem dX0_reckonLate_99 : decode cX0_reckonLate 99 = .ok (.iload 6, 2) := by decide +kernel
theorem dX0_reckonLate_101 : decode cX0_reckonLate 101 = .ok (.iload 7, 2) := by decide +kernel
theorem dX0_reckonLate_103 : decode cX0_reckonLate 103 = .ok (.iastore, 1) := by decide +kernel
theorem dX0_reckonLate_104 : decode cX0_reckonLate 104 = .ok (.iconst 1, 1) := by decide +kernel
theorem dX0_reckonLate_105 : decode cX0_reckonLate 105 = .ok (.istore_n 3, 1) := by decide +kernel
theorem dX0_reckonLate_106 : decode cX0_reckonLate 106 = .ok (.iinc 5 1, 3) := by decide +kernel
theorem dX0_reckonLate_109 : decode cX0_reckonLate 109 = .ok (.goto (-66), 3) := by decide +kernel
theorem dX0_reckonLate_112 : decode cX0_reckonLate 112 = .ok (.iinc 4 1, 3) := by decide +kernel
theorem dX0_reckonLate_115 : decode cX0_reckonLate 115 = .ok (.goto (-90), 3) := by decide +kernel
theorem dX0_reckonLate_118 : decode cX0_reckonLate 118 = .ok (.return_, 1) := by decide +kernel
theorem dX0_leaveOut_0 : decode cX0_leaveOut 0 = .ok (.iconst 1, 1) := by decide +kernel
theorem dX0_leaveOut_1 : decode cX0_leaveOut 1 = .ok (.aload_n 1, 1) := by decide +kernel
theorem dX0_leaveOut_2 : decode cX0_leaveOut 2 = .ok (.getfield 25, 3) := by decide +kernel
theorem dX0_leaveOut_5 : decode cX0_leaveOut 5 = .ok (.getfield 43, 3) := by decide +kernel
theorem dX0_leaveOut_8 : decode cX0_leaveOut 8 = .ok (.ishl, 1) := by decide +kernel
theorem dX0_leaveOut_9 : decode cX0_leaveOut 9 = .ok (.iconst 1, 1) := by decide +kernel
theorem dX0_leaveOut_10 : decode cX0_leaveOut 10 = .ok (.isub, 1) := by decide +kernel
theorem dX0_leaveOut_11 : decode cX0_leaveOut 11 = .ok (.istore_n 2, 1) := by decide +kernel
theorem dX0_leaveOut_12 : decode cX0_leaveOut 12 = .ok (.bipush 11, 2) := by decide +kernel
theorem dX0_leaveOut_14 : decode cX0_leaveOut 14 = .ok (.istore_n 3, 1) := by decide +kernel
theorem dX0_leaveOut_15 : decode cX0_leaveOut 15 = .ok (.iconst 0, 1) := by decide +kernel
theorem dX0_leaveOut_16 : decode cX0_leaveOut 16 = .ok (.istore 4, 2) := by decide +kernel
theorem dX0_leaveOut_18 : decode cX0_leaveOut 18 = .ok (.iload 4, 2) := by decide +kernel
theorem dX0_leaveOut_20 : decode cX0_leaveOut 20 = .ok (.iload_n 2, 1) := by decide +kernel
theorem dX0_leaveOut_21 : decode cX0_leaveOut 21 = .ok (.if_icmp .gt 72, 3) := by decide +kernel
theorem dX0_leaveOut_24 : decode cX0_leaveOut 24 = .ok (.iload 4, 2) := by decide +kernel
theorem dX0_leaveOut_26 : decode cX0_leaveOut 26 = .ok (.invokestatic 60, 3) := by decide +kernel
theorem dX0_leaveOut_29 : decode cX0_leaveOut 29 = .ok (.istore 5, 2) := by decide +kernel
theorem dX0_leaveOut_31 : decode cX0_leaveOut 31 = .ok (.iload 5, 2) := by decide +kernel
theorem dX0_leaveOut_33 : decode cX0_leaveOut 33 = .ok (.iload_n 3, 1) := by decide +kernel
theorem dX0_leaveOut_34 : decode cX0_leaveOut 34 = .ok (.if_icmp .gt 53, 3) := by decide +kernel
theorem dX0_leaveOut_37 : decode cX0_leaveOut 37 = .ok (.aload_n 0, 1) := by decide +kernel
theorem dX0_leaveOut_38 : decode cX0_leaveOut 38 = .ok (.aload_n 1, 1) := by decide +kernel
theorem dX0_leaveOut_39 : decode cX0_leaveOut 39 = .ok (.iload_n 2, 1) := by decide +kernel
theorem dX0_leaveOut_40 : decode cX0_leaveOut 40 = .ok (.iload 4, 2) := by decide +kernel
theorem dX0_leaveOut_42 : decode cX0_leaveOut 42 = .ok (.iconst (-1), 1) := by decide +kernel
theorem dX0_leaveOut_43 : decode cX0_leaveOut 43 = .ok (.ixor, 1) := by decide +kernel
theorem dX0_leaveOut_44 : decode cX0_leaveOut 44 = .ok (.iand, 1) := by decide +kernel
theorem dX0_leaveOut_45 : decode cX0_leaveOut 45 = .ok (.invokevirtual 66, 3) := by decide +kernel
theorem dX0_leaveOut_48 : decode cX0_leaveOut 48 = .ok (.ifCond .ne 6, 3) := by decide +kernel
theorem dX0_leaveOut_51 : decode cX0_leaveOut 51 = .ok (.goto 36, 3) := by decide +kernel
theorem dX0_leaveOut_54 : decode cX0_leaveOut 54 = .ok (.iload 5, 2) := by decide +kernel
theorem dX0_leaveOut_56 : decode cX0_leaveOut 56 = .ok (.iload_n 3, 1) := by decide +kernel
theorem dX0_leaveOut_57 : decode cX0_leaveOut 57 = .ok (.if_icmp .ge 20, 3) := by decide +kernel
theorem dX0_leaveOut_60 : decode cX0_leaveOut 60 = .ok (.iload 5, 2) := by decide +kernel
theorem dX0_leaveOut_62 : decode cX0_leaveOut 62 = .ok (.istore_n 3, 1) := by decide +kernel
theorem dX0_leaveOut_63 : decode cX0_leaveOut 63 = .ok (.aload_n 0, 1) := by decide +kernel
theorem dX0_leaveOut_64 : decode cX0_leaveOut 64 = .ok (.iload 4, 2) := by decide +kernel
theorem dX0_leaveOut_66 : decode cX0_leaveOut 66 = .ok (.putfield 18, 3) := by decide +kernel
theorem dX0_leaveOut_69 : decode cX0_leaveOut 69 = .ok (.aload_n 0, 1) := by decide +kernel
theorem dX0_leaveOut_70 : decode cX0_leaveOut 70 = .ok (.iconst 1, 1) := by decide +kernel
theorem dX0_leaveOut_71 : decode cX0_leaveOut 71 = .ok (.putfield 22, 3) := by decide +kernel
theorem dX0_leaveOut_74 : decode cX0_leaveOut 74 = .ok (.goto 13, 3) := by decide +kernel
theorem dX0_leaveOut_77 : decode cX0_leaveOut 77 = .ok (.aload_n 0, 1) := by decide +kernel
theorem dX0_leaveOut_78 : decode cX0_leaveOut 78 = .ok (.dup, 1) := by decide +kernel
theorem dX0_leaveOut_79 : decode cX0_leaveOut 79 = .ok (.getfield 22, 3) := by decide +kernel
theorem dX0_leaveOut_82 : decode cX0_leaveOut 82 = .ok (.iconst 1, 1) := by decide +kernel
theorem dX0_leaveOut_83 : decode cX0_leaveOut 83 = .ok (.iadd, 1) := by decide +kernel
theorem dX0_leaveOut_84 : decode cX0_leaveOut 84 = .ok (.putfield 22, 3) := by decide +kernel
theorem dX0_leaveOut_87 : decode cX0_leaveOut 87 = .ok (.iinc 4 1, 3) := by decide +kernel
theorem dX0_leaveOut_90 : decode cX0_leaveOut 90 = .ok (.goto (-72), 3) := by decide +kernel
theorem dX0_leaveOut_93 : decode cX0_leaveOut 93 = .ok (.return_, 1) := by decide +kernel
theorem dX1_init_0 : decode cX1_init 0 = .ok (.aload_n 0, 1) := by decide +kernel
theorem dX1_init_1 : decode cX1_init 1 = .ok (.invokespecial 3, 3) := by decide +kernel
theorem dX1_init_4 : decode cX1_init 4 = .ok (.aload_n 0, 1) := by decide +kernel
theorem dX1_init_5 : decode cX1_init 5 = .ok (.bipush 8, 2) := by decide +kernel
theorem dX1_init_7 : decode cX1_init 7 = .ok (.newarray .int, 2) := by decide +kernel
theorem dX1_init_9 : decode cX1_init 9 = .ok (.putfield 9, 3) := by decide +kernel
theorem dX1_init_12 : decode cX1_init 12 = .ok (.aload_n 0, 1) := by decide +kernel
theorem dX1_init_13 : decode cX1_init 13 = .ok (.bipush 54, 2) := by decide +kernel
theorem dX1_init_15 : decode cX1_init 15 = .ok (.newarray .int, 2) := by decide +kernel
theorem dX1_init_17 : decode cX1_init 17 = .ok (.putfield 15, 3) := by decide +kernel
theorem dX1_init_20 : decode cX1_init 20 = .ok (.aload_n 0, 1) := by decide +kernel
theorem dX1_init_21 : decode cX1_init 21 = .ok (.iconst 0, 1) := by decide +kernel
theorem dX1_init_22 : decode cX1_init 22 = .ok (.putfield 18, 3) := by decide +kernel
theorem dX1_init_25 : decode cX1_init 25 = .ok (.return_, 1) := by decide +kernel
theorem dX1_look_0 : decode cX1_look 0 = .ok (.iconst 1, 1) := by decide +kernel
theorem dX1_look_1 : decode cX1_look 1 = .ok (.aload_n 1, 1) := by decide +kernel
theorem dX1_look_2 : decode cX1_look 2 = .ok (.getfield 22, 3) := by decide +kernel
theorem dX1_look_5 : decode cX1_look 5 = .ok (.iconst 0, 1) := by decide +kernel
theorem dX1_look_6 : decode cX1_look 6 = .ok (.iaload, 1) := by decide +kernel
theorem dX1_look_7 : decode cX1_look 7 = .ok (.ishl, 1) := by decide +kernel
theorem dX1_look_8 : decode cX1_look 8 = .ok (.iconst 1, 1) := by decide +kernel
theorem dX1_look_9 : decode cX1_look 9 = .ok (.isub, 1) := by decide +kernel
theorem dX1_look_10 : decode cX1_look 10 = .ok (.istore_n 3, 1) := by decide +kernel
theorem dX1_look_11 : decode cX1_look 11 = .ok (.aload_n 0, 1) := by decide +kernel
theorem dX1_look_12 : decode cX1_look 12 = .ok (.getfield 9, 3) := by decide +kernel
theorem dX1_look_15 : decode cX1_look 15 = .ok (.iconst 0, 1) := by decide +kernel
theorem dX1_look_16 : decode cX1_look 16 = .ok (.iload_n 2, 1) := by decide +kernel
theorem dX1_look_17 : decode cX1_look 17 = .ok (.iastore, 1) := by decide +kernel
theorem dX1_look_18 : decode cX1_look 18 = .ok (.aload_n 0, 1) := by decide +kernel
theorem dX1_look_19 : decode cX1_look 19 = .ok (.getfield 9, 3) := by decide +kernel
theorem dX1_look_22 : decode cX1_look 22 = .ok (.iconst 1, 1) := by decide +kernel
theorem dX1_look_23 : decode cX1_look 23 = .ok (.aload_n 1, 1) := by decide +kernel
theorem dX1_look_24 : decode cX1_look 24 = .ok (.getfield 27, 3) := by decide +kernel
theorem dX1_look_27 : decode cX1_look 27 = .ok (.iload_n 2, 1) := by decide +kernel
theorem dX1_look_28 : decode cX1_look 28 = .ok (.iaload, 1) := by decide +kernel
theorem dX1_look_29 : decode cX1_look 29 = .ok (.iastore, 1) := by decide +kernel
theorem dX1_look_30 : decode cX1_look 30 = .ok (.aload_n 0, 1) := by decide +kernel
theorem dX1_look_31 : decode cX1_look 31 = .ok (.getfield 9, 3) := by decide +kernel
theorem dX1_look_34 : decode cX1_look 34 = .ok (.iconst 2, 1) := by decide +kernel
theorem dX1_look_35 : decode cX1_look 35 = .ok (.aload_n 1, 1) := by decide +kernel
theorem dX1_look_36 : decode cX1_look 36 = .ok (.getfield 30, 3) := by decide +kernel
theorem dX1_look_39 : decode cX1_look 39 = .ok (.iload_n 2, 1) := by decide +kernel
theorem dX1_look_40 : decode cX1_look 40 = .ok (.iaload, 1) := by decide +kernel
theorem dX1_look_41 : decode cX1_look 41 = .ok (.iastore, 1) := by decide +kernel
theorem dX1_look_42 : decode cX1_look 42 = .ok (.aload_n 0, 1) := by decide +kernel
theorem dX1_look_43 : decode cX1_look 43 = .ok (.getfield 9, 3) := by decide +kernel
theorem dX1_look_46 : decode cX1_look 46 = .ok (.iconst 3, 1) := by decide +kernel
theorem dX1_look_47 : decode cX1_look 47 = .ok (.aload_n 1, 1) := by decide +kernel
theorem dX1_look_48 : decode cX1_look 48 = .ok (.getfield 30, 3) := by decide +kernel
theorem dX1_look_51 : decode cX1_look 51 = .ok (.iload_n 2, 1) := by decide +kernel
theorem dX1_look_52 : decode cX1_look 52 = .ok (.iaload, 1) := by decide +kernel
theorem dX1_look_53 : decode cX1_look 53 = .ok (.aload_n 1, 1) := by decide +kernel
theorem dX1_look_54 : decode cX1_look 54 = .ok (.getfield 27, 3) := by decide +kernel
theorem dX1_look_57 : decode cX1_look 57 = .ok (.iload_n 2, 1) := by decide +kernel
theorem dX1_look_58 : decode cX1_look 58 = .ok (.iaload, 1) := by decide +kernel
theorem dX1_look_59 : decode cX1_look 59 = .ok (.isub, 1) := by decide +kernel
theorem dX1_look_60 : decode cX1_look 60 = .ok (.iastore, 1) := by decide +kernel
theorem dX1_look_61 : decode cX1_look 61 = .ok (.aload_n 0, 1) := by decide +kernel
theorem dX1_look_62 : decode cX1_look 62 = .ok (.getfield 9, 3) := by decide +kernel
theorem dX1_look_65 : decode cX1_look 65 = .ok (.iconst 4, 1) := by decide +kernel
theorem dX1_look_66 : decode cX1_look 66 = .ok (.aload_n 1, 1) := by decide +kernel
theorem dX1_look_67 : decode cX1_look 67 = .ok (.getfield 33, 3) := by decide +kernel
theorem dX1_look_70 : decode cX1_look 70 = .ok (.iload_n 2, 1) := by decide +kernel
theorem dX1_look_71 : decode cX1_look 71 = .ok (.iaload, 1) := by decide +kernel
theorem dX1_look_72 : decode cX1_look 72 = .ok (.iastore, 1) := by decide +kernel
theorem dX1_look_73 : decode cX1_look 73 = .ok (.aload_n 0, 1) := by decide +kernel
theorem dX1_look_74 : decode cX1_look 74 = .ok (.getfield 9, 3) := by decide +kernel
theorem dX1_look_77 : decode cX1_look 77 = .ok (.iconst 5, 1) := by decide +kernel
theorem dX1_look_78 : decode cX1_look 78 = .ok (.aload_n 1, 1) := by decide +kernel
theorem dX1_look_79 : decode cX1_look 79 = .ok (.getfield 36, 3) := by decide +kernel
theorem dX1_look_82 : decode cX1_look 82 = .ok (.iload_n 2, 1) := by decide +kernel
theorem dX1_look_83 : decode cX1_look 83 = .ok (.iaload, 1) := by decide +kernel
theorem dX1_look_84 : decode cX1_look 84 = .ok (.iload_n 3, 1) := by decide +kernel
theorem dX1_look_85 : decode cX1_look 85 = .ok (.iand, 1) := by decide +kernel
theorem dX1_look_86 : decode cX1_look 86 = .ok (.invokestatic 39, 3) := by decide +kernel
theorem dX1_look_89 : decode cX1_look 89 = .ok (.iastore, 1) := by decide +kernel
theorem dX1_look_90 : decode cX1_look 90 = .ok (.aload_n 0, 1) := by decide +kernel
theorem dX1_look_91 : decode cX1_look 91 = .ok (.getfield 9, 3) := by decide +kernel
theorem dX1_look_94 : decode cX1_look 94 = .ok (.bipush 6, 2) := by decide +kernel
theorem dX1_look_96 : decode cX1_look 96 = .ok (.aload_n 1, 1) := by decide +kernel
theorem dX1_look_97 : decode cX1_look 97 = .ok (.getfield 22, 3) := by decide +kernel
theorem dX1_look_100 : decode cX1_look 100 = .ok (.iconst 2, 1) := by decide +kernel
theorem dX1_look_101 : decode cX1_look 101 = .ok (.iaload, 1) := by decide +kernel
theorem dX1_look_102 : decode cX1_look 102 = .ok (.iastore, 1) := by decide +kernel
theorem dX1_look_103 : decode cX1_look 103 = .ok (.aload_n 0, 1) := by decide +kernel
theorem dX1_look_104 : decode cX1_look 104 = .ok (.getfield 9, 3) := by decide +kernel
theorem dX1_look_107 : decode cX1_look 107 = .ok (.bipush 7, 2) := by decide +kernel
theorem dX1_look_109 : decode cX1_look 109 = .ok (.iconst (-1), 1) := by decide +kernel
theorem dX1_look_110 : decode cX1_look 110 = .ok (.iastore, 1) := by decide +kernel
theorem dX1_look_111 : decode cX1_look 111 = .ok (.return_, 1) := by decide +kernel
theorem dX1_lastOf_0 : decode cX1_lastOf 0 = .ok (.iload 4, 2) := by decide +kernel
theorem dX1_lastOf_2 : decode cX1_lastOf 2 = .ok (.istore 5, 2) := by decide +kernel
theorem dX1_lastOf_4 : decode cX1_lastOf 4 = .ok (.aload_n 1, 1) := by decide +kernel
theorem dX1_lastOf_5 : decode cX1_lastOf 5 = .ok (.ifnonnull 6, 3) := by decide +kernel
theorem dX1_lastOf_8 : decode cX1_lastOf 8 = .ok (.iload 5, 2) := by decide +kernel
theorem dX1_lastOf_10 : decode cX1_lastOf 10 = .ok (.ireturn, 1) := by decide +kernel
theorem dX1_lastOf_11 : decode cX1_lastOf 11 = .ok (.iconst 0, 1) := by decide +kernel
theorem dX1_lastOf_12 : decode cX1_lastOf 12 = .ok (.istore 6, 2) := by decide +kernel
theorem dX1_lastOf_14 : decode cX1_lastOf 14 = .ok (.iload 6, 2) := by decide +kernel
theorem dX1_lastOf_16 : decode cX1_lastOf 16 = .ok (.aload_n 1, 1) := by decide +kernel
theorem dX1_lastOf_17 : decode cX1_lastOf 17 = .ok (.getfield 45, 3) := by decide +kernel
theorem dX1_lastOf_20 : decode cX1_lastOf 20 = .ok (.arraylength, 1) := by decide +kernel
theorem dX1_lastOf_21 : decode cX1_lastOf 21 = .ok (.if_icmp .ge 47, 3) := by decide +kernel
theorem dX1_lastOf_24 : decode cX1_lastOf 24 = .ok (.aload_n 1, 1) := by decide +kernel
theorem dX1_lastOf_25 : decode cX1_lastOf 25 = .ok (.iload 6, 2) := by decide +kernel
theorem dX1_lastOf_27 : decode cX1_lastOf 27 = .ok (.iload_n 2, 1) := by decide +kernel
theorem dX1_lastOf_28 : decode cX1_lastOf 28 = .ok (.invokevirtual 50, 3) := by decide +kernel
theorem dX1_lastOf_31 : decode cX1_lastOf 31 = .ok (.ifCond .eq 31, 3) := by decide +kernel
theorem dX1_lastOf_34 : decode cX1_lastOf 34 = .ok (.aload_n 0, 1) := by decide +kernel
theorem dX1_lastOf_35 : decode cX1_lastOf 35 = .ok (.aload_n 1, 1) := by decide +kernel
theorem dX1_lastOf_36 : decode cX1_lastOf 36 = .ok (.iload 6, 2) := by decide +kernel
theorem dX1_lastOf_38 : decode cX1_lastOf 38 = .ok (.invokevirtual 54, 3) := by decide +kernel
theorem dX1_lastOf_41 : decode cX1_lastOf 41 = .ok (.ifCond .eq 21, 3) := by decide +kernel
theorem dX1_lastOf_44 : decode cX1_lastOf 44 = .ok (.iload_n 3, 1) := by decide +kernel
theorem dX1_lastOf_45 : decode cX1_lastOf 45 = .ok (.aload_n 0, 1) := by decide +kernel
theorem dX1_lastOf_46 : decode cX1_lastOf 46 = .ok (.getfield 15, 3) := by decide +kernel
theorem dX1_lastOf_49 : decode cX1_lastOf 49 = .ok (.iconst 0, 1) := by decide +kernel
theorem dX1_lastOf_50 : decode cX1_lastOf 50 = .ok (.iaload, 1) := by decide +kernel
theorem dX1_lastOf_51 : decode cX1_lastOf 51 = .ok (.sipush 999, 3) := by decide +kernel
theorem dX1_lastOf_54 : decode cX1_lastOf 54 = .ok (.invokestatic 58, 3) := by decide +kernel
theorem dX1_lastOf_57 : decode cX1_lastOf 57 = .ok (.invokestatic 64, 3) := by decide +kernel
theorem dX1_lastOf_60 : decode cX1_lastOf 60 = .ok (.istore 5, 2) := by decide +kernel
theorem dX1_lastOf_62 : decode cX1_lastOf 62 = .ok (.iinc 6 1, 3) := by decide +kernel
theorem dX1_lastOf_65 : decode cX1_lastOf 65 = .ok (.goto (-51), 3) := by decide +kernel
theorem dX1_lastOf_68 : decode cX1_lastOf 68 = .ok (.iload 5, 2) := by decide +kernel
theorem dX1_lastOf_70 : decode cX1_lastOf 70 = .ok (.ireturn, 1) := by decide +kernel
theorem dX1_isBarred_0 : decode cX1_isBarred 0 = .ok (.aload_n 1, 1) := by decide +kernel
theorem dX1_isBarred_1 : decode cX1_isBarred 1 = .ok (.ifnonnull 5, 3) := by decide +kernel
theorem dX1_isBarred_4 : decode cX1_isBarred 4 = .ok (.iconst 0, 1) := by decide +kernel
theorem dX1_isBarred_5 : decode cX1_isBarred 5 = .ok (.ireturn, 1) := by decide +kernel
theorem dX1_isBarred_6 : decode cX1_isBarred 6 = .ok (.aload_n 0, 1) := by decide +kernel
theorem dX1_isBarred_7 : decode cX1_isBarred 7 = .ok (.getfield 9, 3) := by decide +kernel
theorem dX1_isBarred_10 : decode cX1_isBarred 10 = .ok (.bipush 7, 2) := by decide +kernel
theorem dX1_isBarred_12 : decode cX1_isBarred 12 = .ok (.iload_n 2, 1) := by decide +kernel
theorem dX1_isBarred_13 : decode cX1_isBarred 13 = .ok (.iastore, 1) := by decide +kernel
theorem dX1_isBarred_14 : decode cX1_isBarred 14 = .ok (.iconst 0, 1) := by decide +kernel
theorem dX1_isBarred_15 : decode cX1_isBarred 15 = .ok (.istore_n 3, 1) := by decide +kernel
theorem dX1_isBarred_16 : decode cX1_isBarred 16 = .ok (.iload_n 3, 1) := by decide +kernel
theorem dX1_isBarred_17 : decode cX1_isBarred 17 = .ok (.aload_n 1, 1) := by decide +kernel
theorem dX1_isBarred_18 : decode cX1_isBarred 18 = .ok (.getfield 45, 3) := by decide +kernel
theorem dX1_isBarred_21 : decode cX1_isBarred 21 = .ok (.arraylength, 1) := by decide +kernel
theorem dX1_isBarred_22 : decode cX1_isBarred 22 = .ok (.if_icmp .ge 31, 3) := by decide +kernel
theorem dX1_isBarred_25 : decode cX1_isBarred 25 = .ok (.aload_n 1, 1) := by decide +kernel
theorem dX1_isBarred_26 : decode cX1_isBarred 26 = .ok (.iload_n 3, 1) := by decide +kernel
theorem dX1_isBarred_27 : decode cX1_isBarred 27 = .ok (.sipush 258, 3) := by decide +kernel
theorem dX1_isBarred_30 : decode cX1_isBarred 30 = .ok (.invokevirtual 50, 3) := by decide +kernel
theorem dX1_isBarred_33 : decode cX1_isBarred 33 = .ok (.ifCond .eq 14, 3) := by decide +kernel
theorem dX1_isBarred_36 : decode cX1_isBarred 36 = .ok (.aload_n 0, 1) := by decide +kernel
theorem dX1_isBarred_37 : decode cX1_isBarred 37 = .ok (.aload_n 1, 1) := by decide +kernel
theorem dX1_isBarred_38 : decode cX1_isBarred 38 = .ok (.iload_n 3, 1) := by decide +kernel
theorem dX1_isBarred_39 : decode cX1_isBarred 39 = .ok (.invokevirtual 54, 3) := by decide +kernel
theorem dX1_isBarred_42 : decode cX1_isBarred 42 = .ok (.ifCond .eq 5, 3) := by decide +kernel
theorem dX1_isBarred_45 : decode cX1_isBarred 45 = .ok (.iconst 1, 1) := by decide +kernel
theorem dX1_isBarred_46 : decode cX1_isBarred 46 = .ok (.ireturn, 1) := by decide +kernel
theorem dX1_isBarred_47 : decode cX1_isBarred 47 = .ok (.iinc 3 1, 3) := by decide +kernel
theorem dX1_isBarred_50 : decode cX1_isBarred 50 = .ok (.goto (-34), 3) := by decide +kernel
theorem dX1_isBarred_53 : decode cX1_isBarred 53 = .ok (.iconst 0, 1) := by decide +kernel
theorem dX1_isBarred_54 : decode cX1_isBarred 54 = .ok (.ireturn, 1) := by decide +kernel
theorem dX1_holds_0 : decode cX1_holds 0 = .ok (.iload_n 2, 1) := by decide +kernel
theorem dX1_holds_1 : decode cX1_holds 1 = .ok (.ifCond .le 14, 3) := by decide +kernel
theorem dX1_holds_4 : decode cX1_holds 4 = .ok (.aload_n 1, 1) := by decide +kernel
theorem dX1_holds_5 : decode cX1_holds 5 = .ok (.getfield 67, 3) := by decide +kernel
theorem dX1_holds_8 : decode cX1_holds 8 = .ok (.iload_n 2, 1) := by decide +kernel
theorem dX1_holds_9 : decode cX1_holds 9 = .ok (.iconst 1, 1) := by decide +kernel
theorem dX1_holds_10 : decode cX1_holds 10 = .ok (.isub, 1) := by decide +kernel
theorem dX1_holds_11 : decode cX1_holds 11 = .ok (.iaload, 1) := by decide +kernel
theorem dX1_holds_12 : decode cX1_holds 12 = .ok (.goto 4, 3) := by decide +kernel
theorem dX1_holds_15 : decode cX1_holds 15 = .ok (.iconst 0, 1) := by decide +kernel
theorem dX1_holds_16 : decode cX1_holds 16 = .ok (.istore_n 3, 1) := by decide +kernel
theorem dX1_holds_17 : decode cX1_holds 17 = .ok (.aload_n 1, 1) := by decide +kernel
theorem dX1_holds_18 : decode cX1_holds 18 = .ok (.getfield 67, 3) := by decide +kernel
theorem dX1_holds_21 : decode cX1_holds 21 = .ok (.iload_n 2, 1) := by decide +kernel
theorem dX1_holds_22 : decode cX1_holds 22 = .ok (.iaload, 1) := by decide +kernel
theorem dX1_holds_23 : decode cX1_holds 23 = .ok (.aload_n 1, 1) := by decide +kernel
theorem dX1_holds_24 : decode cX1_holds 24 = .ok (.getfield 70, 3) := by decide +kernel
theorem dX1_holds_27 : decode cX1_holds 27 = .ok (.arraylength, 1) := by decide +kernel
theorem dX1_holds_28 : decode cX1_holds 28 = .ok (.invokestatic 58, 3) := by decide +kernel
theorem dX1_holds_31 : decode cX1_holds 31 = .ok (.istore 4, 2) := by decide +kernel
theorem dX1_holds_33 : decode cX1_holds 33 = .ok (.aload_n 0, 1) := by decide +kernel
theorem dX1_holds_34 : decode cX1_holds 34 = .ok (.iconst 0, 1) := by decide +kernel
theorem dX1_holds_35 : decode cX1_holds 35 = .ok (.putfield 18, 3) := by decide +kernel
theorem dX1_holds_38 : decode cX1_holds 38 = .ok (.iconst 0, 1) := by decide +kernel
theorem dX1_holds_39 : decode cX1_holds 39 = .ok (.istore 5, 2) := by decide +kernel
theorem dX1_holds_41 : decode cX1_holds 41 = .ok (.iload 5, 2) := by decide +kernel
theorem dX1_holds_43 : decode cX1_holds 43 = .ok (.sipush 424, 3) := by decide +kernel
theorem dX1_holds_46 : decode cX1_holds 46 = .ok (.if_icmp .ge 214, 3) := by decide +kernel
theorem dX1_holds_49 : decode cX1_holds 49 = .ok (.iload_n 3, 1) := by decide +kernel
theorem dX1_holds_50 : decode cX1_holds 50 = .ok (.iload 4, 2) := by decide +kernel
theorem dX1_holds_52 : decode cX1_holds 52 = .ok (.if_icmp .ge 208, 3) := by decide +kernel
theorem dX1_holds_55 : decode cX1_holds 55 = .ok (.aload_n 1, 1) := by decide +kernel
theorem dX1_holds_56 : decode cX1_holds 56 = .ok (.getfield 70, 3) := by decide +kernel
theorem dX1_holds_59 : decode cX1_holds 59 = .ok (.iload_n 3, 1) := by decide +kernel
theorem dX1_holds_60 : decode cX1_holds 60 = .ok (.iaload, 1) := by decide +kernel
theorem dX1_holds_61 : decode cX1_holds 61 = .ok (.istore 6, 2) := by decide +kernel
theorem dX1_holds_63 : decode cX1_holds 63 = .ok (.aload_n 1, 1) := by decide +kernel
theorem dX1_holds_64 : decode cX1_holds 64 = .ok (.getfield 73, 3) := by decide +kernel
theorem dX1_holds_67 : decode cX1_holds 67 = .ok (.iload_n 3, 1) := by decide +kernel
theorem dX1_holds_68 : decode cX1_holds 68 = .ok (.iaload, 1) := by decide +kernel
theorem dX1_holds_69 : decode cX1_holds 69 = .ok (.istore 7, 2) := by decide +kernel
theorem dX1_holds_71 : decode cX1_holds 71 = .ok (.iinc 3 1, 3) := by decide +kernel
theorem dX1_holds_74 : decode cX1_holds 74 = .ok (.iload 6, 2) := by decide +kernel
theorem dX1_holds_76 : decode cX1_holds 76 = .ok (.sipush 281, 3) := by decide +kernel
theorem dX1_holds_79 : decode cX1_holds 79 = .ok (.if_icmp .ne 12, 3) := by decide +kernel
theorem dX1_holds_82 : decode cX1_holds 82 = .ok (.aload_n 0, 1) := by decide +kernel
theorem dX1_holds_83 : decode cX1_holds 83 = .ok (.iload 7, 2) := by decide +kernel
theorem dX1_holds_85 : decode cX1_holds 85 = .ok (.invokevirtual 76, 3) := by decide +kernel
theorem dX1_holds_88 : decode cX1_holds 88 = .ok (.goto 166, 3) := by decide +kernel
theorem dX1_holds_91 : decode cX1_holds 91 = .ok (.iload 6, 2) := by decide +kernel
theorem dX1_holds_93 : decode cX1_holds 93 = .ok (.sipush 282, 3) := by decide +kernel
theorem dX1_holds_96 : decode cX1_holds 96 = .ok (.if_icmp .ne 33, 3) := by decide +kernel
theorem dX1_holds_99 : decode cX1_holds 99 = .ok (.aload_n 0, 1) := by decide +kernel
theorem dX1_holds_100 : decode cX1_holds 100 = .ok (.iload 7, 2) := by decide +kernel
theorem dX1_holds_102 : decode cX1_holds 102 = .ok (.ifCond .lt 20, 3) := by decide +kernel
theorem dX1_holds_105 : decode cX1_holds 105 = .ok (.iload 7, 2) := by decide +kernel
theorem dX1_holds_107 : decode cX1_holds 107 = .ok (.bipush 8, 2) := by decide +kernel
theorem dX1_holds_109 : decode cX1_holds 109 = .ok (.if_icmp .ge 13, 3) := by decide +kernel
theorem dX1_holds_112 : decode cX1_holds 112 = .ok (.aload_n 0, 1) := by decide +kernel
theorem dX1_holds_113 : decode cX1_holds 113 = .ok (.getfield 9, 3) := by decide +kernel
theorem dX1_holds_116 : decode cX1_holds 116 = .ok (.iload 7, 2) := by decide +kernel
theorem dX1_holds_118 : decode cX1_holds 118 = .ok (.iaload, 1) := by decide +kernel
theorem dX1_holds_119 : decode cX1_holds 119 = .ok (.goto 4, 3) := by decide +kernel
theorem dX1_holds_122 : decode cX1_holds 122 = .ok (.iconst 0, 1) := by decide +kernel
theorem dX1_holds_123 : decode cX1_holds 123 = .ok (.invokevirtual 76, 3) := by decide +kernel
theorem dX1_holds_126 : decode cX1_holds 126 = .ok (.goto 128, 3) := by decide +kernel
theorem dX1_holds_129 : decode cX1_holds 129 = .ok (.iload 6, 2) := by decide +kernel
theorem dX1_holds_131 : decode cX1_holds 131 = .ok (.sipush 261, 3) := by decide +kernel
theorem dX1_holds_134 : decode cX1_holds 134 = .ok (.if_icmp .eq 11, 3) := by decide +kernel
theorem dX1_holds_137 : decode cX1_holds 137 = .ok (.iload 6, 2) := by decide +kernel
theorem dX1_holds_139 : decode cX1_holds 139 = .ok (.sipush 260, 3) := by decide +kernel
theorem dX1_holds_142 : decode cX1_holds 142 = .ok (.if_icmp .ne 66, 3) := by decide +kernel
theorem dX1_holds_145 : decode cX1_holds 145 = .ok (.aload_n 0, 1) := by decide +kernel
theorem dX1_holds_146 : decode cX1_holds 146 = .ok (.invokevirtual 80, 3) := by decide +kernel
theorem dX1_holds_149 : decode cX1_holds 149 = .ok (.ifCond .eq 7, 3) := by decide +kernel
theorem dX1_holds_152 : decode cX1_holds 152 = .ok (.iconst 1, 1) := by decide +kernel
theorem dX1_holds_153 : decode cX1_holds 153 = .ok (.goto 4, 3) := by decide +kernel
theorem dX1_holds_156 : decode cX1_holds 156 = .ok (.iconst 0, 1) := by decide +kernel
theorem dX1_holds_157 : decode cX1_holds 157 = .ok (.iload 6, 2) := by decide +kernel
theorem dX1_holds_159 : decode cX1_holds 159 = .ok (.sipush 260, 3) := by decide +kernel
theorem dX1_holds_162 : decode cX1_holds 162 = .ok (.if_icmp .ne 7, 3) := by decide +kernel
theorem dX1_holds_165 : decode cX1_holds 165 = .ok (.iconst 1, 1) := by decide +kernel
theorem dX1_holds_166 : decode cX1_holds 166 = .ok (.goto 4, 3) := by decide +kernel
theorem dX1_holds_169 : decode cX1_holds 169 = .ok (.iconst 0, 1) := by decide +kernel
theorem dX1_holds_170 : decode cX1_holds 170 = .ok (.if_icmp .ne 7, 3) := by decide +kernel
theorem dX1_holds_173 : decode cX1_holds 173 = .ok (.iconst 1, 1) := by decide +kernel
theorem dX1_holds_174 : decode cX1_holds 174 = .ok (.goto 4, 3) := by decide +kernel
theorem dX1_holds_177 : decode cX1_holds 177 = .ok (.iconst 0, 1) := by decide +kernel
theorem dX1_holds_178 : decode cX1_holds 178 = .ok (.istore 8, 2) := by decide +kernel
theorem dX1_holds_180 : decode cX1_holds 180 = .ok (.iload 8, 2) := by decide +kernel
theorem dX1_holds_182 : decode cX1_holds 182 = .ok (.ifCond .eq 13, 3) := by decide +kernel
theorem dX1_holds_185 : decode cX1_holds 185 = .ok (.iload_n 3, 1) := by decide +kernel
theorem dX1_holds_186 : decode cX1_holds 186 = .ok (.iload 7, 2) := by decide +kernel
theorem dX1_holds_188 : decode cX1_holds 188 = .ok (.invokestatic 64, 3) := by decide +kernel
theorem dX1_holds_191 : decode cX1_holds 191 = .ok (.istore_n 3, 1) := by decide +kernel
theorem dX1_holds_192 : decode cX1_holds 192 = .ok (.goto 13, 3) := by decide +kernel
theorem dX1_holds_195 : decode cX1_holds 195 = .ok (.aload_n 0, 1) := by decide +kernel
theorem dX1_holds_196 : decode cX1_holds 196 = .ok (.dup, 1) := by decide +kernel
theorem dX1_holds_197 : decode cX1_holds 197 = .ok (.getfield 18, 3) := by decide +kernel
theorem dX1_holds_200 : decode cX1_holds 200 = .ok (.iconst 1, 1) := by decide +kernel
theorem dX1_holds_201 : decode cX1_holds 201 = .ok (.isub, 1) := by decide +kernel
theorem dX1_holds_202 : decode cX1_holds 202 = .ok (.putfield 18, 3) := by decide +kernel
theorem dX1_holds_205 : decode cX1_holds 205 = .ok (.goto 49, 3) := by decide +kernel
theorem dX1_holds_208 : decode cX1_holds 208 = .ok (.iload 6, 2) := by decide +kernel
theorem dX1_holds_210 : decode cX1_holds 210 = .ok (.sipush 262, 3) := by decide +kernel
theorem dX1_holds_213 : decode cX1_holds 213 = .ok (.if_icmp .ne 30, 3) := by decide +kernel
theorem dX1_holds_216 : decode cX1_holds 216 = .ok (.aload_n 0, 1) := by decide +kernel
theorem dX1_holds_217 : decode cX1_holds 217 = .ok (.invokevirtual 80, 3) := by decide +kernel
theorem dX1_holds_220 : decode cX1_holds 220 = .ok (.istore 8, 2) := by decide +kernel
theorem dX1_holds_222 : decode cX1_holds 222 = .ok (.aload_n 0, 1) := by decide +kernel
theorem dX1_holds_223 : decode cX1_holds 223 = .ok (.dup, 1) := by decide +kernel
theorem dX1_holds_224 : decode cX1_holds 224 = .ok (.getfield 18, 3) := by decide +kernel
theorem dX1_holds_227 : decode cX1_holds 227 = .ok (.iconst 1, 1) := by decide +kernel
theorem dX1_holds_228 : decode cX1_holds 228 = .ok (.isub, 1) := by decide +kernel
theorem dX1_holds_229 : decode cX1_holds 229 = .ok (.putfield 18, 3) := by decide +kernel
theorem dX1_holds_232 : decode cX1_holds 232 = .ok (.aload_n 0, 1) := by decide +kernel
theorem dX1_holds_233 : decode cX1_holds 233 = .ok (.iconst 1, 1) := by decide +kernel
theorem dX1_holds_234 : decode cX1_holds 234 = .ok (.iload 8, 2) := by decide +kernel
theorem dX1_holds_236 : decode cX1_holds 236 = .ok (.isub, 1) := by decide +kernel
theorem dX1_holds_237 : decode cX1_holds 237 = .ok (.invokevirtual 76, 3) := by decide +kernel
theorem dX1_holds_240 : decode cX1_holds 240 = .ok (.goto 14, 3) := by decide +kernel
theorem dX1_holds_243 : decode cX1_holds 243 = .ok (.aload_n 0, 1) := by decide +kernel
theorem dX1_holds_244 : decode cX1_holds 244 = .ok (.iload 6, 2) := by decide +kernel
theorem dX1_holds_246 : decode cX1_holds 246 = .ok (.invokevirtual 84, 3) := by decide +kernel
theorem dX1_holds_249 : decode cX1_holds 249 = .ok (.ifCond .ne 5, 3) := by decide +kernel
theorem dX1_holds_252 : decode cX1_holds 252 = .ok (.iconst 0, 1) := by decide +kernel
theorem dX1_holds_253 : decode cX1_holds 253 = .ok (.ireturn, 1) := by decide +kernel
theorem dX1_holds_254 : decode cX1_holds 254 = .ok (.iinc 5 1, 3) := by decide +kernel
theorem dX1_holds_257 : decode cX1_holds 257 = .ok (.goto (-216), 3) := by decide +kernel
theorem dX1_holds_260 : decode cX1_holds 260 = .ok (.aload_n 0, 1) := by decide +kernel
theorem dX1_holds_261 : decode cX1_holds 261 = .ok (.getfield 18, 3) := by decide +kernel
theorem dX1_holds_264 : decode cX1_holds 264 = .ok (.iconst 2, 1) := by decide +kernel
theorem dX1_holds_265 : decode cX1_holds 265 = .ok (.if_icmp .ne 16, 3) := by decide +kernel
theorem dX1_holds_268 : decode cX1_holds 268 = .ok (.aload_n 0, 1) := by decide +kernel
theorem dX1_holds_269 : decode cX1_holds 269 = .ok (.getfield 15, 3) := by decide +kernel
theorem dX1_holds_272 : decode cX1_holds 272 = .ok (.iconst 1, 1) := by decide +kernel
theorem dX1_holds_273 : decode cX1_holds 273 = .ok (.iaload, 1) := by decide +kernel
theorem dX1_holds_274 : decode cX1_holds 274 = .ok (.ifCond .eq 7, 3) := by decide +kernel
theorem dX1_holds_277 : decode cX1_holds 277 = .ok (.iconst 1, 1) := by decide +kernel
theorem dX1_holds_278 : decode cX1_holds 278 = .ok (.goto 4, 3) := by decide +kernel
theorem dX1_holds_281 : decode cX1_holds 281 = .ok (.iconst 0, 1) := by decide +kernel
theorem dX1_holds_282 : decode cX1_holds 282 = .ok (.ireturn, 1) := by decide +kernel
theorem dX1_push_0 : decode cX1_push 0 = .ok (.aload_n 0, 1) := by decide +kernel
theorem dX1_push_1 : decode cX1_push 1 = .ok (.getfield 18, 3) := by decide +kernel
theorem dX1_push_4 : decode cX1_push 4 = .ok (.ifCond .lt 32, 3) := by decide +kernel
theorem dX1_push_7 : decode cX1_push 7 = .ok (.aload_n 0, 1) := by decide +kernel
theorem dX1_push_8 : decode cX1_push 8 = .ok (.getfield 18, 3) := by decide +kernel
theorem dX1_push_11 : decode cX1_push 11 = .ok (.bipush 54, 2) := by decide +kernel
theorem dX1_push_13 : decode cX1_push 13 = .ok (.if_icmp .ge 23, 3) := by decide +kernel
theorem dX1_push_16 : decode cX1_push 16 = .ok (.aload_n 0, 1) := by decide +kernel
theorem dX1_push_17 : decode cX1_push 17 = .ok (.getfield 15, 3) := by decide +kernel
theorem dX1_push_20 : decode cX1_push 20 = .ok (.aload_n 0, 1) := by decide +kernel
theorem dX1_push_21 : decode cX1_push 21 = .ok (.getfield 18, 3) := by decide +kernel
theorem dX1_push_24 : decode cX1_push 24 = .ok (.iload_n 1, 1) := by decide +kernel
theorem dX1_push_25 : decode cX1_push 25 = .ok (.iastore, 1) := by decide +kernel
theorem dX1_push_26 : decode cX1_push 26 = .ok (.aload_n 0, 1) := by decide +kernel
theorem dX1_push_27 : decode cX1_push 27 = .ok (.dup, 1) := by decide +kernel
theorem dX1_push_28 : decode cX1_push 28 = .ok (.getfield 18, 3) := by decide +kernel
theorem dX1_push_31 : decode cX1_push 31 = .ok (.iconst 1, 1) := by decide +kernel
theorem dX1_push_32 : decode cX1_push 32 = .ok (.iadd, 1) := by decide +kernel
theorem dX1_push_33 : decode cX1_push 33 = .ok (.putfield 18, 3) := by decide +kernel
theorem dX1_push_36 : decode cX1_push 36 = .ok (.return_, 1) := by decide +kernel
theorem dX1_top_0 : decode cX1_top 0 = .ok (.aload_n 0, 1) := by decide +kernel
theorem dX1_top_1 : decode cX1_top 1 = .ok (.getfield 18, 3) := by decide +kernel
theorem dX1_top_4 : decode cX1_top 4 = .ok (.ifCond .le 26, 3) := by decide +kernel
theorem dX1_top_7 : decode cX1_top 7 = .ok (.aload_n 0, 1) := by decide +kernel
theorem dX1_top_8 : decode cX1_top 8 = .ok (.getfield 18, 3) := by decide +kernel
theorem dX1_top_11 : decode cX1_top 11 = .ok (.bipush 54, 2) := by decide +kernel
theorem dX1_top_13 : decode cX1_top 13 = .ok (.if_icmp .gt 17, 3) := by decide +kernel
theorem dX1_top_16 : decode cX1_top 16 = .ok (.aload_n 0, 1) := by decide +kernel
theorem dX1_top_17 : decode cX1_top 17 = .ok (.getfield 15, 3) := by decide +kernel
theorem dX1_top_20 : decode cX1_top 20 = .ok (.aload_n 0, 1) := by decide +kernel
theorem dX1_top_21 : decode cX1_top 21 = .ok (.getfield 18, 3) := by decide +kernel
theorem dX1_top_24 : decode cX1_top 24 = .ok (.iconst 1, 1) := by decide +kernel
theorem dX1_top_25 : decode cX1_top 25 = .ok (.isub, 1) := by decide +kernel
theorem dX1_top_26 : decode cX1_top 26 = .ok (.iaload, 1) := by decide +kernel
theorem dX1_top_27 : decode cX1_top 27 = .ok (.goto 4, 3) := by decide +kernel
theorem dX1_top_30 : decode cX1_top 30 = .ok (.iconst 0, 1) := by decide +kernel
theorem dX1_top_31 : decode cX1_top 31 = .ok (.ireturn, 1) := by decide +kernel
theorem dX1_joins_0 : decode cX1_joins 0 = .ok (.aload_n 0, 1) := by decide +kernel
theorem dX1_joins_1 : decode cX1_joins 1 = .ok (.getfield 18, 3) := by decide +kernel
theorem dX1_joins_4 : decode cX1_joins 4 = .ok (.iconst 2, 1) := by decide +kernel
theorem dX1_joins_5 : decode cX1_joins 5 = .ok (.if_icmp .lt 12, 3) := by decide +kernel
theorem dX1_joins_8 : decode cX1_joins 8 = .ok (.aload_n 0, 1) := by decide +kernel
theorem dX1_joins_9 : decode cX1_joins 9 = .ok (.getfield 18, 3) := by decide +kernel
theorem dX1_joins_12 : decode cX1_joins 12 = .ok (.bipush 54, 2) := by decide +kernel
theorem dX1_joins_14 : decode cX1_joins 14 = .ok (.if_icmp .le 5, 3) := by decide +kernel
theorem dX1_joins_17 : decode cX1_joins 17 = .ok (.iconst 0, 1) := by decide +kernel
theorem dX1_joins_18 : decode cX1_joins 18 = .ok (.ireturn, 1) := by decide +kernel
theorem dX1_joins_19 : decode cX1_joins 19 = .ok (.aload_n 0, 1) := by decide +kernel
theorem dX1_joins_20 : decode cX1_joins 20 = .ok (.getfield 15, 3) := by decide +kernel
theorem dX1_joins_23 : decode cX1_joins 23 = .ok (.aload_n 0, 1) := by decide +kernel
theorem dX1_joins_24 : decode cX1_joins 24 = .ok (.getfield 18, 3) := by decide +kernel
theorem dX1_joins_27 : decode cX1_joins 27 = .ok (.iconst 2, 1) := by decide +kernel
theorem dX1_joins_28 : decode cX1_joins 28 = .ok (.isub, 1) := by decide +kernel
theorem dX1_joins_29 : decode cX1_joins 29 = .ok (.iaload, 1) := by decide +kernel
theorem dX1_joins_30 : decode cX1_joins 30 = .ok (.i2l, 1) := by decide +kernel
theorem dX1_joins_31 : decode cX1_joins 31 = .ok (.lstore_n 2, 1) := by decide +kernel
theorem dX1_joins_32 : decode cX1_joins 32 = .ok (.aload_n 0, 1) := by decide +kernel
theorem dX1_joins_33 : decode cX1_joins 33 = .ok (.getfield 15, 3) := by decide +kernel
theorem dX1_joins_36 : decode cX1_joins 36 = .ok (.aload_n 0, 1) := by decide +kernel
theorem dX1_joins_37 : decode cX1_joins 37 = .ok (.getfield 18, 3) := by decide +kernel
theorem dX1_joins_40 : decode cX1_joins 40 = .ok (.iconst 1, 1) := by decide +kernel
theorem dX1_joins_41 : decode cX1_joins 41 = .ok (.isub, 1) := by decide +kernel
theorem dX1_joins_42 : decode cX1_joins 42 = .ok (.iaload, 1) := by decide +kernel
theorem dX1_joins_43 : decode cX1_joins 43 = .ok (.i2l, 1) := by decide +kernel
theorem dX1_joins_44 : decode cX1_joins 44 = .ok (.lstore 4, 2) := by decide +kernel
theorem dX1_joins_46 : decode cX1_joins 46 = .ok (.iload_n 1, 1) := by decide +kernel
theorem dX1_joins_47 : decode cX1_joins 47 = .ok (.bipush 47, 2) := by decide +kernel
theorem dX1_joins_49 : decode cX1_joins 49 = .ok (.if_icmp .ne 12, 3) := by decide +kernel
theorem dX1_joins_52 : decode cX1_joins 52 = .ok (.lload 4, 2) := by decide +kernel
theorem dX1_joins_54 : decode cX1_joins 54 = .ok (.lconst 0, 1) := by decide +kernel
theorem dX1_joins_55 : decode cX1_joins 55 = .ok (.lcmp, 1) := by decide +kernel
theorem dX1_joins_56 : decode cX1_joins 56 = .ok (.ifCond .ne 5, 3) := by decide +kernel
theorem dX1_joins_59 : decode cX1_joins 59 = .ok (.iconst 0, 1) := by decide +kernel
theorem dX1_joins_60 : decode cX1_joins 60 = .ok (.ireturn, 1) := by decide +kernel
theorem dX1_joins_61 : decode cX1_joins 61 = .ok (.iload_n 1, 1) := by decide +kernel
theorem dX1_joins_62 : decode cX1_joins 62 = .ok (.lload_n 2, 1) := by decide +kernel
theorem dX1_joins_63 : decode cX1_joins 63 = .ok (.lload 4, 2) := by decide +kernel
theorem dX1_joins_65 : decode cX1_joins 65 = .ok (.invokestatic 88, 3) := by decide +kernel
theorem dX1_joins_68 : decode cX1_joins 68 = .ok (.lstore 6, 2) := by decide +kernel
theorem dX1_joins_70 : decode cX1_joins 70 = .ok (.lload 6, 2) := by decide +kernel
theorem dX1_joins_72 : decode cX1_joins 72 = .ok (.ldc2_w 92, 3) := by decide +kernel
theorem dX1_joins_75 : decode cX1_joins 75 = .ok (.lcmp, 1) := by decide +kernel
theorem dX1_joins_76 : decode cX1_joins 76 = .ok (.ifCond .gt 12, 3) := by decide +kernel
theorem dX1_joins_79 : decode cX1_joins 79 = .ok (.lload 6, 2) := by decide +kernel
theorem dX1_joins_81 : decode cX1_joins 81 = .ok (.ldc2_w 94, 3) := by decide +kernel
theorem dX1_joins_84 : decode cX1_joins 84 = .ok (.lcmp, 1) := by decide +kernel
theorem dX1_joins_85 : decode cX1_joins 85 = .ok (.ifCond .ge 5, 3) := by decide +kernel
theorem dX1_joins_88 : decode cX1_joins 88 = .ok (.iconst 0, 1) := by decide +kernel
theorem dX1_joins_89 : decode cX1_joins 89 = .ok (.ireturn, 1) := by decide +kernel
theorem dX1_joins_90 : decode cX1_joins 90 = .ok (.aload_n 0, 1) := by decide +kernel
theorem dX1_joins_91 : decode cX1_joins 91 = .ok (.dup, 1) := by decide +kernel
theorem dX1_joins_92 : decode cX1_joins 92 = .ok (.getfield 18, 3) := by decide +kernel
theorem dX1_joins_95 : decode cX1_joins 95 = .ok (.iconst 2, 1) := by decide +kernel
theorem dX1_joins_96 : decode cX1_joins 96 = .ok (.isub, 1) := by decide +kernel
theorem dX1_joins_97 : decode cX1_joins 97 = .ok (.putfield 18, 3) := by decide +kernel
theorem dX1_joins_100 : decode cX1_joins 100 = .ok (.aload_n 0, 1) := by decide +kernel
theorem dX1_joins_101 : decode cX1_joins 101 = .ok (.lload 6, 2) := by decide +kernel
theorem dX1_joins_103 : decode cX1_joins 103 = .ok (.l2i, 1) := by decide +kernel
theorem dX1_joins_104 : decode cX1_joins 104 = .ok (.invokevirtual 76, 3) := by decide +kernel
theorem dX1_joins_107 : decode cX1_joins 107 = .ok (.iconst 1, 1) := by decide +kernel
theorem dX1_joins_108 : decode cX1_joins 108 = .ok (.ireturn, 1) := by decide +kernel
theorem dX1_joined_0 : decode cX1_joined 0 = .ok (.iload_n 0, 1) := by decide +kernel
theorem dX1_joined_1 : decode cX1_joined 1 = .ok (.lookupswitch 109 #[(42, 67), (43, 59), (45, 63), (47, 71), (60, 85), (62, 97)], 59) := by decide +kernel
theorem dX1_joined_60 : decode cX1_joined 60 = .ok (.lload_n 1, 1) := by decide +kernel
theorem dX1_joined_61 : decode cX1_joined 61 = .ok (.lload_n 3, 1) := by decide +kernel
theorem dX1_joined_62 : decode cX1_joined 62 = .ok (.ladd, 1) := by decide +kernel
theorem dX1_joined_63 : decode cX1_joined 63 = .ok (.lreturn, 1) := by decide +kernel
theorem dX1_joined_64 : decode cX1_joined 64 = .ok (.lload_n 1, 1) := by decide +kernel
theorem dX1_joined_65 : decode cX1_joined 65 = .ok (.lload_n 3, 1) := by decide +kernel
theorem dX1_joined_66 : decode cX1_joined 66 = .ok (.lsub, 1) := by decide +kernel
theorem dX1_joined_67 : decode cX1_joined 67 = .ok (.lreturn, 1) := by decide +kernel
theorem dX1_joined_68 : decode cX1_joined 68 = .ok (.lload_n 1, 1) := by decide +kernel
theorem dX1_joined_69 : decode cX1_joined 69 = .ok (.lload_n 3, 1) := by decide +kernel
theorem dX1_joined_70 : decode cX1_joined 70 = .ok (.lmul, 1) := by decide +kernel
theorem dX1_joined_71 : decode cX1_joined 71 = .ok (.lreturn, 1) := by decide +kernel
theorem dX1_joined_72 : decode cX1_joined 72 = .ok (.lload_n 3, 1) := by decide +kernel
theorem dX1_joined_73 : decode cX1_joined 73 = .ok (.lconst 0, 1) := by decide +kernel
theorem dX1_joined_74 : decode cX1_joined 74 = .ok (.lcmp, 1) := by decide +kernel
theorem dX1_joined_75 : decode cX1_joined 75 = .ok (.ifCond .eq 9, 3) := by decide +kernel
theorem dX1_joined_78 : decode cX1_joined 78 = .ok (.lload_n 1, 1) := by decide +kernel
theorem dX1_joined_79 : decode cX1_joined 79 = .ok (.lload_n 3, 1) := by decide +kernel
theorem dX1_joined_80 : decode cX1_joined 80 = .ok (.ldiv, 1) := by decide +kernel
theorem dX1_joined_81 : decode cX1_joined 81 = .ok (.goto 4, 3) := by decide +kernel
theorem dX1_joined_84 : decode cX1_joined 84 = .ok (.lconst 0, 1) := by decide +kernel
theorem dX1_joined_85 : decode cX1_joined 85 = .ok (.lreturn, 1) := by decide +kernel
theorem dX1_joined_86 : decode cX1_joined 86 = .ok (.lload_n 1, 1) := by decide +kernel
theorem dX1_joined_87 : decode cX1_joined 87 = .ok (.lload_n 3, 1) := by decide +kernel
theorem dX1_joined_88 : decode cX1_joined 88 = .ok (.lcmp, 1) := by decide +kernel
theorem dX1_joined_89 : decode cX1_joined 89 = .ok (.ifCond .ge 7, 3) := by decide +kernel
theorem dX1_joined_92 : decode cX1_joined 92 = .ok (.lconst 1, 1) := by decide +kernel
theorem dX1_joined_93 : decode cX1_joined 93 = .ok (.goto 4, 3) := by decide +kernel
theorem dX1_joined_96 : decode cX1_joined 96 = .ok (.lconst 0, 1) := by decide +kernel
theorem dX1_joined_97 : decode cX1_joined 97 = .ok (.lreturn, 1) := by decide +kernel
theorem dX1_joined_98 : decode cX1_joined 98 = .ok (.lload_n 1, 1) := by decide +kernel
theorem dX1_joined_99 : decode cX1_joined 99 = .ok (.lload_n 3, 1) := by decide +kernel
theorem dX1_joined_100 : decode cX1_joined 100 = .ok (.lcmp, 1) := by decide +kernel
theorem dX1_joined_101 : decode cX1_joined 101 = .ok (.ifCond .le 7, 3) := by decide +kernel
theorem dX1_joined_104 : decode cX1_joined 104 = .ok (.lconst 1, 1) := by decide +kernel
theorem dX1_joined_105 : decode cX1_joined 105 = .ok (.goto 4, 3) := by decide +kernel
theorem dX1_joined_108 : decode cX1_joined 108 = .ok (.lconst 0, 1) := by decide +kernel
theorem dX1_joined_109 : decode cX1_joined 109 = .ok (.lreturn, 1) := by decide +kernel
theorem dX1_joined_110 : decode cX1_joined 110 = .ok (.lload_n 1, 1) := by decide +kernel
theorem dX1_joined_111 : decode cX1_joined 111 = .ok (.lload_n 3, 1) := by decide +kernel
theorem dX1_joined_112 : decode cX1_joined 112 = .ok (.lcmp, 1) := by decide +kernel
theorem dX1_joined_113 : decode cX1_joined 113 = .ok (.ifCond .ne 7, 3) := by decide +kernel
theorem dX1_joined_116 : decode cX1_joined 116 = .ok (.lconst 1, 1) := by decide +kernel
theorem dX1_joined_117 : decode cX1_joined 117 = .ok (.goto 4, 3) := by decide +kernel
theorem dX1_joined_120 : decode cX1_joined 120 = .ok (.lconst 0, 1) := by decide +kernel
theorem dX1_joined_121 : decode cX1_joined 121 = .ok (.lreturn, 1) := by decide +kernel
theorem dX2_init_0 : decode cX2_init 0 = .ok (.aload_n 0, 1) := by decide +kernel
theorem dX2_init_1 : decode cX2_init 1 = .ok (.invokespecial 1, 3) := by decide +kernel
theorem dX2_init_4 : decode cX2_init 4 = .ok (.aload_n 0, 1) := by decide +kernel
theorem dX2_init_5 : decode cX2_init 5 = .ok (.aload_n 1, 1) := by decide +kernel
theorem dX2_init_6 : decode cX2_init 6 = .ok (.putfield 7, 3) := by decide +kernel
theorem dX2_init_9 : decode cX2_init 9 = .ok (.aload_n 0, 1) := by decide +kernel
theorem dX2_init_10 : decode cX2_init 10 = .ok (.aload_n 2, 1) := by decide +kernel
theorem dX2_init_11 : decode cX2_init 11 = .ok (.putfield 13, 3) := by decide +kernel
theorem dX2_init_14 : decode cX2_init 14 = .ok (.aload_n 0, 1) := by decide +kernel
theorem dX2_init_15 : decode cX2_init 15 = .ok (.aload_n 3, 1) := by decide +kernel
theorem dX2_init_16 : decode cX2_init 16 = .ok (.putfield 16, 3) := by decide +kernel
theorem dX2_init_19 : decode cX2_init 19 = .ok (.aload_n 0, 1) := by decide +kernel
theorem dX2_init_20 : decode cX2_init 20 = .ok (.aload 4, 2) := by decide +kernel
theorem dX2_init_22 : decode cX2_init 22 = .ok (.putfield 19, 3) := by decide +kernel
theorem dX2_init_25 : decode cX2_init 25 = .ok (.return_, 1) := by decide +kernel
theorem dX2_isOf_0 : decode cX2_isOf 0 = .ok (.iload_n 1, 1) := by decide +kernel
theorem dX2_isOf_1 : decode cX2_isOf 1 = .ok (.ifCond .lt 26, 3) := by decide +kernel
theorem dX2_isOf_4 : decode cX2_isOf 4 = .ok (.iload_n 1, 1) := by decide +kernel
theorem dX2_isOf_5 : decode cX2_isOf 5 = .ok (.aload_n 0, 1) := by decide +kernel
theorem dX2_isOf_6 : decode cX2_isOf 6 = .ok (.getfield 7, 3) := by decide +kernel
theorem dX2_isOf_9 : decode cX2_isOf 9 = .ok (.arraylength, 1) := by decide +kernel
theorem dX2_isOf_10 : decode cX2_isOf 10 = .ok (.if_icmp .ge 17, 3) := by decide +kernel
theorem dX2_isOf_13 : decode cX2_isOf 13 = .ok (.aload_n 0, 1) := by decide +kernel
theorem dX2_isOf_14 : decode cX2_isOf 14 = .ok (.getfield 7, 3) := by decide +kernel
theorem dX2_isOf_17 : decode cX2_isOf 17 = .ok (.iload_n 1, 1) := by decide +kernel
theorem dX2_isOf_18 : decode cX2_isOf 18 = .ok (.iaload, 1) := by decide +kernel
theorem dX2_isOf_19 : decode cX2_isOf 19 = .ok (.iload_n 2, 1) := by decide +kernel
theorem dX2_isOf_20 : decode cX2_isOf 20 = .ok (.if_icmp .ne 7, 3) := by decide +kernel
theorem dX2_isOf_23 : decode cX2_isOf 23 = .ok (.iconst 1, 1) := by decide +kernel
theorem dX2_isOf_24 : decode cX2_isOf 24 = .ok (.goto 4, 3) := by decide +kernel
theorem dX2_isOf_27 : decode cX2_isOf 27 = .ok (.iconst 0, 1) := by decide +kernel
theorem dX2_isOf_28 : decode cX2_isOf 28 = .ok (.ireturn, 1) := by decide +kernel
theorem dX3_init_0 : decode cX3_init 0 = .ok (.aload_n 0, 1) := by decide +kernel
theorem dX3_init_1 : decode cX3_init 1 = .ok (.invokespecial 3, 3) := by decide +kernel
theorem dX3_init_4 : decode cX3_init 4 = .ok (.aload_n 0, 1) := by decide +kernel
theorem dX3_init_5 : decode cX3_init 5 = .ok (.new 9, 3) := by decide +kernel
theorem dX3_init_8 : decode cX3_init 8 = .ok (.dup, 1) := by decide +kernel
theorem dX3_init_9 : decode cX3_init 9 = .ok (.invokespecial 11, 3) := by decide +kernel
theorem dX3_init_12 : decode cX3_init 12 = .ok (.putfield 12, 3) := by decide +kernel
theorem dX3_init_15 : decode cX3_init 15 = .ok (.aload_n 0, 1) := by decide +kernel
theorem dX3_init_16 : decode cX3_init 16 = .ok (.bipush 10, 2) := by decide +kernel
theorem dX3_init_18 : decode cX3_init 18 = .ok (.newarray .int, 2) := by decide +kernel
theorem dX3_init_20 : decode cX3_init 20 = .ok (.putfield 18, 3) := by decide +kernel
theorem dX3_init_23 : decode cX3_init 23 = .ok (.aload_n 0, 1) := by decide +kernel
theorem dX3_init_24 : decode cX3_init 24 = .ok (.bipush 10, 2) := by decide +kernel
theorem dX3_init_26 : decode cX3_init 26 = .ok (.newarray .int, 2) := by decide +kernel
theorem dX3_init_28 : decode cX3_init 28 = .ok (.putfield 22, 3) := by decide +kernel
theorem dX3_init_31 : decode cX3_init 31 = .ok (.aload_n 0, 1) := by decide +kernel
theorem dX3_init_32 : decode cX3_init 32 = .ok (.bipush 10, 2) := by decide +kernel
theorem dX3_init_34 : decode cX3_init 34 = .ok (.newarray .int, 2) := by decide +kernel
theorem dX3_init_36 : decode cX3_init 36 = .ok (.putfield 25, 3) := by decide +kernel
theorem dX3_init_39 : decode cX3_init 39 = .ok (.aload_n 0, 1) := by decide +kernel
theorem dX3_init_40 : decode cX3_init 40 = .ok (.bipush 10, 2) := by decide +kernel
theorem dX3_init_42 : decode cX3_init 42 = .ok (.newarray .int, 2) := by decide +kernel
theorem dX3_init_44 : decode cX3_init 44 = .ok (.putfield 28, 3) := by decide +kernel
theorem dX3_init_47 : decode cX3_init 47 = .ok (.aload_n 0, 1) := by decide +kernel
theorem dX3_init_48 : decode cX3_init 48 = .ok (.bipush 10, 2) := by decide +kernel
theorem dX3_init_50 : decode cX3_init 50 = .ok (.newarray .int, 2) := by decide +kernel
theorem dX3_init_52 : decode cX3_init 52 = .ok (.putfield 31, 3) := by decide +kernel
theorem dX3_init_55 : decode cX3_init 55 = .ok (.aload_n 0, 1) := by decide +kernel
theorem dX3_init_56 : decode cX3_init 56 = .ok (.iconst 0, 1) := by decide +kernel
theorem dX3_init_57 : decode cX3_init 57 = .ok (.putfield 34, 3) := by decide +kernel
theorem dX3_init_60 : decode cX3_init 60 = .ok (.aload_n 0, 1) := by decide +kernel
theorem dX3_init_61 : decode cX3_init 61 = .ok (.iconst 1, 1) := by decide +kernel
theorem dX3_init_62 : decode cX3_init 62 = .ok (.putfield 38, 3) := by decide +kernel
theorem dX3_init_65 : decode cX3_init 65 = .ok (.aload_n 0, 1) := by decide +kernel
theorem dX3_init_66 : decode cX3_init 66 = .ok (.iconst 0, 1) := by decide +kernel
theorem dX3_init_67 : decode cX3_init 67 = .ok (.putfield 42, 3) := by decide +kernel
theorem dX3_init_70 : decode cX3_init 70 = .ok (.aload_n 0, 1) := by decide +kernel
theorem dX3_init_71 : decode cX3_init 71 = .ok (.iconst 0, 1) := by decide +kernel
theorem dX3_init_72 : decode cX3_init 72 = .ok (.putfield 45, 3) := by decide +kernel
theorem dX3_init_75 : decode cX3_init 75 = .ok (.aload_n 0, 1) := by decide +kernel
theorem dX3_init_76 : decode cX3_init 76 = .ok (.sipush 1024, 3) := by decide +kernel
theorem dX3_init_79 : decode cX3_init 79 = .ok (.newarray .int, 2) := by decide +kernel
theorem dX3_init_81 : decode cX3_init 81 = .ok (.putfield 48, 3) := by decide +kernel
theorem dX3_init_84 : decode cX3_init 84 = .ok (.aload_n 0, 1) := by decide +kernel
theorem dX3_init_85 : decode cX3_init 85 = .ok (.sipush 1024, 3) := by decide +kernel
theorem dX3_init_88 : decode cX3_init 88 = .ok (.newarray .int, 2) := by decide +kernel
theorem dX3_init_90 : decode cX3_init 90 = .ok (.putfield 51, 3) := by decide +kernel
theorem dX3_init_93 : decode cX3_init 93 = .ok (.aload_n 0, 1) := by decide +kernel
theorem dX3_init_94 : decode cX3_init 94 = .ok (.sipush 1024, 3) := by decide +kernel
theorem dX3_init_97 : decode cX3_init 97 = .ok (.newarray .int, 2) := by decide +kernel
theorem dX3_init_99 : decode cX3_init 99 = .ok (.putfield 54, 3) := by decide +kernel
theorem dX3_init_102 : decode cX3_init 102 = .ok (.aload_n 0, 1) := by decide +kernel
theorem dX3_init_103 : decode cX3_init 103 = .ok (.sipush 1024, 3) := by decide +kernel
theorem dX3_init_106 : decode cX3_init 106 = .ok (.newarray .int, 2) := by decide +kernel
theorem dX3_init_108 : decode cX3_init 108 = .ok (.putfield 57, 3) := by decide +kernel
theorem dX3_init_111 : decode cX3_init 111 = .ok (.aload_n 0, 1) := by decide +kernel
theorem dX3_init_112 : decode cX3_init 112 = .ok (.bipush 10, 2) := by decide +kernel
theorem dX3_init_114 : decode cX3_init 114 = .ok (.newarray .int, 2) := by decide +kernel
theorem dX3_init_116 : decode cX3_init 116 = .ok (.putfield 60, 3) := by decide +kernel
theorem dX3_init_119 : decode cX3_init 119 = .ok (.aload_n 0, 1) := by decide +kernel
theorem dX3_init_120 : decode cX3_init 120 = .ok (.iconst 0, 1) := by decide +kernel
theorem dX3_init_121 : decode cX3_init 121 = .ok (.putfield 63, 3) := by decide +kernel
theorem dX3_init_124 : decode cX3_init 124 = .ok (.aload_n 0, 1) := by decide +kernel
theorem dX3_init_125 : decode cX3_init 125 = .ok (.iconst 0, 1) := by decide +kernel
theorem dX3_init_126 : decode cX3_init 126 = .ok (.putfield 66, 3) := by decide +kernel
theorem dX3_init_129 : decode cX3_init 129 = .ok (.aload_n 0, 1) := by decide +kernel
theorem dX3_init_130 : decode cX3_init 130 = .ok (.iconst 0, 1) := by decide +kernel
theorem dX3_init_131 : decode cX3_init 131 = .ok (.putfield 69, 3) := by decide +kernel
theorem dX3_init_134 : decode cX3_init 134 = .ok (.return_, 1) := by decide +kernel
theorem dX3_spoil_0 : decode cX3_spoil 0 = .ok (.aload_n 0, 1) := by decide +kernel
theorem dX3_spoil_1 : decode cX3_spoil 1 = .ok (.iconst 0, 1) := by decide +kernel
theorem dX3_spoil_2 : decode cX3_spoil 2 = .ok (.putfield 42, 3) := by decide +kernel
theorem dX3_spoil_5 : decode cX3_spoil 5 = .ok (.aload_n 0, 1) := by decide +kernel
theorem dX3_spoil_6 : decode cX3_spoil 6 = .ok (.iconst 0, 1) := by decide +kernel
theorem dX3_spoil_7 : decode cX3_spoil 7 = .ok (.putfield 45, 3) := by decide +kernel
theorem dX3_spoil_10 : decode cX3_spoil 10 = .ok (.aload_n 0, 1) := by decide +kernel
theorem dX3_spoil_11 : decode cX3_spoil 11 = .ok (.iconst 0, 1) := by decide +kernel
theorem dX3_spoil_12 : decode cX3_spoil 12 = .ok (.putfield 69, 3) := by decide +kernel
theorem dX3_spoil_15 : decode cX3_spoil 15 = .ok (.return_, 1) := by decide +kernel
theorem dX3_weigh_0 : decode cX3_weigh 0 = .ok (.aload_n 0, 1) := by decide +kernel
theorem dX3_weigh_1 : decode cX3_weigh 1 = .ok (.getfield 42, 3) := by decide +kernel
theorem dX3_weigh_4 : decode cX3_weigh 4 = .ok (.ifCond .eq 4, 3) := by decide +kernel
theorem dX3_weigh_7 : decode cX3_weigh 7 = .ok (.return_, 1) := by decide +kernel
theorem dX3_weigh_8 : decode cX3_weigh 8 = .ok (.aload_n 0, 1) := by decide +kernel
theorem dX3_weigh_9 : decode cX3_weigh 9 = .ok (.iconst 1, 1) := by decide +kernel
theorem dX3_weigh_10 : decode cX3_weigh 10 = .ok (.putfield 42, 3) := by decide +kernel
theorem dX3_weigh_13 : decode cX3_weigh 13 = .ok (.aload_n 0, 1) := by decide +kernel
theorem dX3_weigh_14 : decode cX3_weigh 14 = .ok (.aload_n 1, 1) := by decide +kernel
theorem dX3_weigh_15 : decode cX3_weigh 15 = .ok (.getfield 72, 3) := by decide +kernel
theorem dX3_weigh_18 : decode cX3_weigh 18 = .ok (.putfield 34, 3) := by decide +kernel
theorem dX3_weigh_21 : decode cX3_weigh 21 = .ok (.aload_n 0, 1) := by decide +kernel
theorem dX3_weigh_22 : decode cX3_weigh 22 = .ok (.aload_n 1, 1) := by decide +kernel
theorem dX3_weigh_23 : decode cX3_weigh 23 = .ok (.getfield 75, 3) := by decide +kernel
theorem dX3_weigh_26 : decode cX3_weigh 26 = .ok (.iconst 1, 1) := by decide +kernel
theorem dX3_weigh_27 : decode cX3_weigh 27 = .ok (.iaload, 1) := by decide +kernel
theorem dX3_weigh_28 : decode cX3_weigh 28 = .ok (.iconst 1, 1) := by decide +kernel
theorem dX3_weigh_29 : decode cX3_weigh 29 = .ok (.if_icmp .ne 7, 3) := by decide +kernel
theorem dX3_weigh_32 : decode cX3_weigh 32 = .ok (.iconst 1, 1) := by decide +kernel
theorem dX3_weigh_33 : decode cX3_weigh 33 = .ok (.goto 4, 3) := by decide +kernel
theorem dX3_weigh_36 : decode cX3_weigh 36 = .ok (.iconst 0, 1) := by decide +kernel
theorem dX3_weigh_37 : decode cX3_weigh 37 = .ok (.putfield 38, 3) := by decide +kernel
theorem dX3_weigh_40 : decode cX3_weigh 40 = .ok (.aload_n 1, 1) := by decide +kernel
theorem dX3_weigh_41 : decode cX3_weigh 41 = .ok (.invokevirtual 78, 3) := by decide +kernel
theorem dX3_weigh_44 : decode cX3_weigh 44 = .ok (.astore_n 2, 1) := by decide +kernel
theorem dX3_weigh_45 : decode cX3_weigh 45 = .ok (.iconst 0, 1) := by decide +kernel
theorem dX3_weigh_46 : decode cX3_weigh 46 = .ok (.istore_n 3, 1) := by decide +kernel
theorem dX3_weigh_47 : decode cX3_weigh 47 = .ok (.iload_n 3, 1) := by decide +kernel
theorem dX3_weigh_48 : decode cX3_weigh 48 = .ok (.aload_n 0, 1) := by decide +kernel
theorem dX3_weigh_49 : decode cX3_weigh 49 = .ok (.getfield 34, 3) := by decide +kernel
theorem dX3_weigh_52 : decode cX3_weigh 52 = .ok (.if_icmp .ge 152, 3) := by decide +kernel
theorem dX3_weigh_55 : decode cX3_weigh 55 = .ok (.aload_n 0, 1) := by decide +kernel
theorem dX3_weigh_56 : decode cX3_weigh 56 = .ok (.getfield 18, 3) := by decide +kernel
theorem dX3_weigh_59 : decode cX3_weigh 59 = .ok (.iload_n 3, 1) := by decide +kernel
theorem dX3_weigh_60 : decode cX3_weigh 60 = .ok (.aload_n 1, 1) := by decide +kernel
theorem dX3_weigh_61 : decode cX3_weigh 61 = .ok (.getfield 82, 3) := by decide +kernel
theorem dX3_weigh_64 : decode cX3_weigh 64 = .ok (.iload_n 3, 1) := by decide +kernel
theorem dX3_weigh_65 : decode cX3_weigh 65 = .ok (.iaload, 1) := by decide +kernel
theorem dX3_weigh_66 : decode cX3_weigh 66 = .ok (.iastore, 1) := by decide +kernel
theorem dX3_weigh_67 : decode cX3_weigh 67 = .ok (.aload_n 0, 1) := by decide +kernel
theorem dX3_weigh_68 : decode cX3_weigh 68 = .ok (.getfield 22, 3) := by decide +kernel
theorem dX3_weigh_71 : decode cX3_weigh 71 = .ok (.iload_n 3, 1) := by decide +kernel
theorem dX3_weigh_72 : decode cX3_weigh 72 = .ok (.aload_n 1, 1) := by decide +kernel
theorem dX3_weigh_73 : decode cX3_weigh 73 = .ok (.getfield 83, 3) := by decide +kernel
theorem dX3_weigh_76 : decode cX3_weigh 76 = .ok (.iload_n 3, 1) := by decide +kernel
theorem dX3_weigh_77 : decode cX3_weigh 77 = .ok (.iaload, 1) := by decide +kernel
theorem dX3_weigh_78 : decode cX3_weigh 78 = .ok (.iastore, 1) := by decide +kernel
theorem dX3_weigh_79 : decode cX3_weigh 79 = .ok (.aload_n 0, 1) := by decide +kernel
theorem dX3_weigh_80 : decode cX3_weigh 80 = .ok (.getfield 12, 3) := by decide +kernel
theorem dX3_weigh_83 : decode cX3_weigh 83 = .ok (.aload_n 1, 1) := by decide +kernel
theorem dX3_weigh_84 : decode cX3_weigh 84 = .ok (.iload_n 3, 1) := by decide +kernel
theorem dX3_weigh_85 : decode cX3_weigh 85 = .ok (.invokevirtual 84, 3) := by decide +kernel
theorem dX3_weigh_88 : decode cX3_weigh 88 = .ok (.aload_n 0, 1) := by decide +kernel
theorem dX3_weigh_89 : decode cX3_weigh 89 = .ok (.getfield 25, 3) := by decide +kernel
theorem dX3_weigh_92 : decode cX3_weigh 92 = .ok (.iload_n 3, 1) := by decide +kernel
theorem dX3_weigh_93 : decode cX3_weigh 93 = .ok (.aload_n 0, 1) := by decide +kernel
theorem dX3_weigh_94 : decode cX3_weigh 94 = .ok (.getfield 12, 3) := by decide +kernel
theorem dX3_weigh_97 : decode cX3_weigh 97 = .ok (.aload_n 2, 1) := by decide +kernel
theorem dX3_weigh_98 : decode cX3_weigh 98 = .ok (.sipush 256, 3) := by decide +kernel
theorem dX3_weigh_101 : decode cX3_weigh 101 = .ok (.iconst 0, 1) := by decide +kernel
theorem dX3_weigh_102 : decode cX3_weigh 102 = .ok (.aload_n 1, 1) := by decide +kernel
theorem dX3_weigh_103 : decode cX3_weigh 103 = .ok (.getfield 88, 3) := by decide +kernel
theorem dX3_weigh_106 : decode cX3_weigh 106 = .ok (.iload_n 3, 1) := by decide +kernel
theorem dX3_weigh_107 : decode cX3_weigh 107 = .ok (.iaload, 1) := by decide +kernel
theorem dX3_weigh_108 : decode cX3_weigh 108 = .ok (.invokevirtual 91, 3) := by decide +kernel
theorem dX3_weigh_111 : decode cX3_weigh 111 = .ok (.iastore, 1) := by decide +kernel
theorem dX3_weigh_112 : decode cX3_weigh 112 = .ok (.aload_n 0, 1) := by decide +kernel
theorem dX3_weigh_113 : decode cX3_weigh 113 = .ok (.getfield 28, 3) := by decide +kernel
theorem dX3_weigh_116 : decode cX3_weigh 116 = .ok (.iload_n 3, 1) := by decide +kernel
theorem dX3_weigh_117 : decode cX3_weigh 117 = .ok (.aload_n 0, 1) := by decide +kernel
theorem dX3_weigh_118 : decode cX3_weigh 118 = .ok (.getfield 12, 3) := by decide +kernel
theorem dX3_weigh_121 : decode cX3_weigh 121 = .ok (.aload_n 2, 1) := by decide +kernel
theorem dX3_weigh_122 : decode cX3_weigh 122 = .ok (.sipush 257, 3) := by decide +kernel
theorem dX3_weigh_125 : decode cX3_weigh 125 = .ok (.iconst 1, 1) := by decide +kernel
theorem dX3_weigh_126 : decode cX3_weigh 126 = .ok (.iconst 1, 1) := by decide +kernel
theorem dX3_weigh_127 : decode cX3_weigh 127 = .ok (.invokevirtual 91, 3) := by decide +kernel
theorem dX3_weigh_130 : decode cX3_weigh 130 = .ok (.iastore, 1) := by decide +kernel
theorem dX3_weigh_131 : decode cX3_weigh 131 = .ok (.aload_n 0, 1) := by decide +kernel
theorem dX3_weigh_132 : decode cX3_weigh 132 = .ok (.getfield 31, 3) := by decide +kernel
theorem dX3_weigh_135 : decode cX3_weigh 135 = .ok (.iload_n 3, 1) := by decide +kernel
theorem dX3_weigh_136 : decode cX3_weigh 136 = .ok (.iconst 0, 1) := by decide +kernel
theorem dX3_weigh_137 : decode cX3_weigh 137 = .ok (.iastore, 1) := by decide +kernel
theorem dX3_weigh_138 : decode cX3_weigh 138 = .ok (.iconst 0, 1) := by decide +kernel
theorem dX3_weigh_139 : decode cX3_weigh 139 = .ok (.istore 4, 2) := by decide +kernel
theorem dX3_weigh_141 : decode cX3_weigh 141 = .ok (.iload 4, 2) := by decide +kernel
theorem dX3_weigh_143 : decode cX3_weigh 143 = .ok (.aload_n 1, 1) := by decide +kernel
theorem dX3_weigh_144 : decode cX3_weigh 144 = .ok (.getfield 75, 3) := by decide +kernel
theorem dX3_weigh_147 : decode cX3_weigh 147 = .ok (.iconst 0, 1) := by decide +kernel
theorem dX3_weigh_148 : decode cX3_weigh 148 = .ok (.iaload, 1) := by decide +kernel
theorem dX3_weigh_149 : decode cX3_weigh 149 = .ok (.if_icmp .ge 49, 3) := by decide +kernel
theorem dX3_weigh_152 : decode cX3_weigh 152 = .ok (.aload_n 1, 1) := by decide +kernel
theorem dX3_weigh_153 : decode cX3_weigh 153 = .ok (.getfield 95, 3) := by decide +kernel
theorem dX3_weigh_156 : decode cX3_weigh 156 = .ok (.iload_n 3, 1) := by decide +kernel
theorem dX3_weigh_157 : decode cX3_weigh 157 = .ok (.iaload, 1) := by decide +kernel
theorem dX3_weigh_158 : decode cX3_weigh 158 = .ok (.iload 4, 2) := by decide +kernel
theorem dX3_weigh_160 : decode cX3_weigh 160 = .ok (.ishr, 1) := by decide +kernel
theorem dX3_weigh_161 : decode cX3_weigh 161 = .ok (.iconst 1, 1) := by decide +kernel
theorem dX3_weigh_162 : decode cX3_weigh 162 = .ok (.iand, 1) := by decide +kernel
theorem dX3_weigh_163 : decode cX3_weigh 163 = .ok (.ifCond .eq 29, 3) := by decide +kernel
theorem dX3_weigh_166 : decode cX3_weigh 166 = .ok (.aload_n 0, 1) := by decide +kernel
theorem dX3_weigh_167 : decode cX3_weigh 167 = .ok (.getfield 12, 3) := by decide +kernel
theorem dX3_weigh_170 : decode cX3_weigh 170 = .ok (.aload_n 2, 1) := by decide +kernel
theorem dX3_weigh_171 : decode cX3_weigh 171 = .ok (.iload 4, 2) := by decide +kernel
theorem dX3_weigh_173 : decode cX3_weigh 173 = .ok (.invokevirtual 98, 3) := by decide +kernel
theorem dX3_weigh_176 : decode cX3_weigh 176 = .ok (.ifCond .ne 16, 3) := by decide +kernel
theorem dX3_weigh_179 : decode cX3_weigh 179 = .ok (.aload_n 0, 1) := by decide +kernel
theorem dX3_weigh_180 : decode cX3_weigh 180 = .ok (.getfield 31, 3) := by decide +kernel
theorem dX3_weigh_183 : decode cX3_weigh 183 = .ok (.iload_n 3, 1) := by decide +kernel
theorem dX3_weigh_184 : decode cX3_weigh 184 = .ok (.dup2, 1) := by decide +kernel
theorem dX3_weigh_185 : decode cX3_weigh 185 = .ok (.iaload, 1) := by decide +kernel
theorem dX3_weigh_186 : decode cX3_weigh 186 = .ok (.iconst 1, 1) := by decide +kernel
theorem dX3_weigh_187 : decode cX3_weigh 187 = .ok (.iload 4, 2) := by decide +kernel
theorem dX3_weigh_189 : decode cX3_weigh 189 = .ok (.ishl, 1) := by decide +kernel
theorem dX3_weigh_190 : decode cX3_weigh 190 = .ok (.ior, 1) := by decide +kernel
theorem dX3_weigh_191 : decode cX3_weigh 191 = .ok (.iastore, 1) := by decide +kernel
theorem dX3_weigh_192 : decode cX3_weigh 192 = .ok (.iinc 4 1, 3) := by decide +kernel
theorem dX3_weigh_195 : decode cX3_weigh 195 = .ok (.goto (-54), 3) := by decide +kernel
theorem dX3_weigh_198 : decode cX3_weigh 198 = .ok (.iinc 3 1, 3) := by decide +kernel
theorem dX3_weigh_201 : decode cX3_weigh 201 = .ok (.goto (-154), 3) := by decide +kernel
theorem dX3_weigh_204 : decode cX3_weigh 204 = .ok (.return_, 1) := by decide +kernel
theorem dX3_reckon_0 : decode cX3_reckon 0 = .ok (.aload_n 0, 1) := by decide +kernel
theorem dX3_reckon_1 : decode cX3_reckon 1 = .ok (.getfield 45, 3) := by decide +kernel
theorem dX3_reckon_4 : decode cX3_reckon 4 = .ok (.ifCond .eq 4, 3) := by decide +kernel
theorem dX3_reckon_7 : decode cX3_reckon 7 = .ok (.return_, 1) := by decide +kernel
theorem dX3_reckon_8 : decode cX3_reckon 8 = .ok (.aload_n 0, 1) := by decide +kernel
theorem dX3_reckon_9 : decode cX3_reckon 9 = .ok (.aload_n 1, 1) := by decide +kernel
theorem dX3_reckon_10 : decode cX3_reckon 10 = .ok (.invokevirtual 102, 3) := by decide +kernel
theorem dX3_reckon_13 : decode cX3_reckon 13 = .ok (.aload_n 0, 1) := by decide +kernel
theorem dX3_reckon_14 : decode cX3_reckon 14 = .ok (.iconst 1, 1) := by decide +kernel
theorem dX3_reckon_15 : decode cX3_reckon 15 = .ok (.putfield 45, 3) := by decide +kernel
theorem dX3_reckon_18 : decode cX3_reckon 18 = .ok (.aload_n 0, 1) := by decide +kernel
theorem dX3_reckon_19 : decode cX3_reckon 19 = .ok (.getfield 48, 3) := by decide +kernel
theorem dX3_reckon_22 : decode cX3_reckon 22 = .ok (.iconst 0, 1) := by decide +kernel
theorem dX3_reckon_23 : decode cX3_reckon 23 = .ok (.iconst 0, 1) := by decide +kernel
theorem dX3_reckon_24 : decode cX3_reckon 24 = .ok (.iastore, 1) := by decide +kernel
theorem dX3_reckon_25 : decode cX3_reckon 25 = .ok (.aload_n 0, 1) := by decide +kernel
theorem dX3_reckon_26 : decode cX3_reckon 26 = .ok (.getfield 51, 3) := by decide +kernel
theorem dX3_reckon_29 : decode cX3_reckon 29 = .ok (.iconst 0, 1) := by decide +kernel
theorem dX3_reckon_30 : decode cX3_reckon 30 = .ok (.iconst 0, 1) := by decide +kernel
theorem dX3_reckon_31 : decode cX3_reckon 31 = .ok (.iastore, 1) := by decide +kernel
theorem dX3_reckon_32 : decode cX3_reckon 32 = .ok (.aload_n 0, 1) := by decide +kernel
theorem dX3_reckon_33 : decode cX3_reckon 33 = .ok (.getfield 54, 3) := by decide +kernel
theorem dX3_reckon_36 : decode cX3_reckon 36 = .ok (.iconst 0, 1) := by decide +kernel
theorem dX3_reckon_37 : decode cX3_reckon 37 = .ok (.iconst (-1), 1) := by decide +kernel
theorem dX3_reckon_38 : decode cX3_reckon 38 = .ok (.iastore, 1) := by decide +kernel
theorem dX3_reckon_39 : decode cX3_reckon 39 = .ok (.aload_n 0, 1) := by decide +kernel
theorem dX3_reckon_40 : decode cX3_reckon 40 = .ok (.getfield 57, 3) := by decide +kernel
theorem dX3_reckon_43 : decode cX3_reckon 43 = .ok (.iconst 0, 1) := by decide +kernel
theorem dX3_reckon_44 : decode cX3_reckon 44 = .ok (.iconst 0, 1) := by decide +kernel
theorem dX3_reckon_45 : decode cX3_reckon 45 = .ok (.iastore, 1) := by decide +kernel
theorem dX3_reckon_46 : decode cX3_reckon 46 = .ok (.iconst 1, 1) := by decide +kernel
theorem dX3_reckon_47 : decode cX3_reckon 47 = .ok (.istore_n 2, 1) := by decide +kernel
theorem dX3_reckon_48 : decode cX3_reckon 48 = .ok (.iload_n 2, 1) := by decide +kernel
theorem dX3_reckon_49 : decode cX3_reckon 49 = .ok (.iconst 1, 1) := by decide +kernel
theorem dX3_reckon_50 : decode cX3_reckon 50 = .ok (.aload_n 0, 1) := by decide +kernel
theorem dX3_reckon_51 : decode cX3_reckon 51 = .ok (.getfield 34, 3) := by decide +kernel
theorem dX3_reckon_54 : decode cX3_reckon 54 = .ok (.ishl, 1) := by decide +kernel
theorem dX3_reckon_55 : decode cX3_reckon 55 = .ok (.if_icmp .ge 14, 3) := by decide +kernel
theorem dX3_reckon_58 : decode cX3_reckon 58 = .ok (.aload_n 0, 1) := by decide +kernel
theorem dX3_reckon_59 : decode cX3_reckon 59 = .ok (.iload_n 2, 1) := by decide +kernel
theorem dX3_reckon_60 : decode cX3_reckon 60 = .ok (.invokevirtual 106, 3) := by decide +kernel
theorem dX3_reckon_63 : decode cX3_reckon 63 = .ok (.iinc 2 1, 3) := by decide +kernel
theorem dX3_reckon_66 : decode cX3_reckon 66 = .ok (.goto (-18), 3) := by decide +kernel
theorem dX3_reckon_69 : decode cX3_reckon 69 = .ok (.return_, 1) := by decide +kernel
theorem dX3_reckonSet_0 : decode cX3_reckonSet 0 = .ok (.ldc 110, 2) := by decide +kernel
theorem dX3_reckonSet_2 : decode cX3_reckonSet 2 = .ok (.istore_n 2, 1) := by decide +kernel
theorem dX3_reckonSet_3 : decode cX3_reckonSet 3 = .ok (.iconst (-1), 1) := by decide +kernel
theorem dX3_reckonSet_4 : decode cX3_reckonSet 4 = .ok (.istore_n 3, 1) := by decide +kernel
theorem dX3_reckonSet_5 : decode cX3_reckonSet 5 = .ok (.ldc 110, 2) := by decide +kernel
theorem dX3_reckonSet_7 : decode cX3_reckonSet 7 = .ok (.istore 4, 2) := by decide +kernel
theorem dX3_reckonSet_9 : decode cX3_reckonSet 9 = .ok (.iconst 0, 1) := by decide +kernel
theorem dX3_reckonSet_10 : decode cX3_reckonSet 10 = .ok (.istore 5, 2) := by decide +kernel
theorem dX3_reckonSet_12 : decode cX3_reckonSet 12 = .ok (.iconst 0, 1) := by decide +kernel
theorem dX3_reckonSet_13 : decode cX3_reckonSet 13 = .ok (.istore 6, 2) := by decide +kernel
theorem dX3_reckonSet_15 : decode cX3_reckonSet 15 = .ok (.iload 6, 2) := by decide +kernel
theorem dX3_reckonSet_17 : decode cX3_reckonSet 17 = .ok (.aload_n 0, 1) := by decide +kernel
theorem dX3_reckonSet_18 : decode cX3_reckonSet 18 = .ok (.getfield 34, 3) := by decide +kernel
theorem dX3_reckonSet_21 : decode cX3_reckonSet 21 = .ok (.if_icmp .ge 175, 3) := by decide +kernel
theorem dX3_reckonSet_24 : decode cX3_reckonSet 24 = .ok (.iload_n 1, 1) := by decide +kernel
theorem dX3_reckonSet_25 : decode cX3_reckonSet 25 = .ok (.iload 6, 2) := by decide +kernel
theorem dX3_reckonSet_27 : decode cX3_reckonSet 27 = .ok (.ishr, 1) := by decide +kernel
theorem dX3_reckonSet_28 : decode cX3_reckonSet 28 = .ok (.iconst 1, 1) := by decide +kernel
theorem dX3_reckonSet_29 : decode cX3_reckonSet 29 = .ok (.iand, 1) := by decide +kernel
theorem dX3_reckonSet_30 : decode cX3_reckonSet 30 = .ok (.ifCond .ne 6, 3) := by decide +kernel
theorem dX3_reckonSet_33 : decode cX3_reckonSet 33 = .ok (.goto 157, 3) := by decide +kernel
theorem dX3_reckonSet_36 : decode cX3_reckonSet 36 = .ok (.iload 5, 2) := by decide +kernel
theorem dX3_reckonSet_38 : decode cX3_reckonSet 38 = .ok (.aload_n 0, 1) := by decide +kernel
theorem dX3_reckonSet_39 : decode cX3_reckonSet 39 = .ok (.getfield 25, 3) := by decide +kernel
theorem dX3_reckonSet_42 : decode cX3_reckonSet 42 = .ok (.iload 6, 2) := by decide +kernel
theorem dX3_reckonSet_44 : decode cX3_reckonSet 44 = .ok (.iaload, 1) := by decide +kernel
theorem dX3_reckonSet_45 : decode cX3_reckonSet 45 = .ok (.iadd, 1) := by decide +kernel
theorem dX3_reckonSet_46 : decode cX3_reckonSet 46 = .ok (.istore 5, 2) := by decide +kernel
theorem dX3_reckonSet_48 : decode cX3_reckonSet 48 = .ok (.iload_n 1, 1) := by decide +kernel
theorem dX3_reckonSet_49 : decode cX3_reckonSet 49 = .ok (.iconst 1, 1) := by decide +kernel
theorem dX3_reckonSet_50 : decode cX3_reckonSet 50 = .ok (.iload 6, 2) := by decide +kernel
theorem dX3_reckonSet_52 : decode cX3_reckonSet 52 = .ok (.ishl, 1) := by decide +kernel
theorem dX3_reckonSet_53 : decode cX3_reckonSet 53 = .ok (.iconst (-1), 1) := by decide +kernel
theorem dX3_reckonSet_54 : decode cX3_reckonSet 54 = .ok (.ixor, 1) := by decide +kernel
theorem dX3_reckonSet_55 : decode cX3_reckonSet 55 = .ok (.iand, 1) := by decide +kernel
theorem dX3_reckonSet_56 : decode cX3_reckonSet 56 = .ok (.istore 7, 2) := by decide +kernel
theorem dX3_reckonSet_58 : decode cX3_reckonSet 58 = .ok (.aload_n 0, 1) := by decide +kernel
theorem dX3_reckonSet_59 : decode cX3_reckonSet 59 = .ok (.getfield 38, 3) := by decide +kernel
theorem dX3_reckonSet_62 : decode cX3_reckonSet 62 = .ok (.ifCond .eq 22, 3) := by decide +kernel
theorem dX3_reckonSet_65 : decode cX3_reckonSet 65 = .ok (.aload_n 0, 1) := by decide +kernel
theorem dX3_reckonSet_66 : decode cX3_reckonSet 66 = .ok (.getfield 31, 3) := by decide +kernel
theorem dX3_reckonSet_69 : decode cX3_reckonSet 69 = .ok (.iload 6, 2) := by decide +kernel
theorem dX3_reckonSet_71 : decode cX3_reckonSet 71 = .ok (.iaload, 1) := by decide +kernel
theorem dX3_reckonSet_72 : decode cX3_reckonSet 72 = .ok (.aload_n 0, 1) := by decide +kernel
theorem dX3_reckonSet_73 : decode cX3_reckonSet 73 = .ok (.getfield 31, 3) := by decide +kernel
theorem dX3_reckonSet_76 : decode cX3_reckonSet 76 = .ok (.iload 6, 2) := by decide +kernel
theorem dX3_reckonSet_78 : decode cX3_reckonSet 78 = .ok (.iaload, 1) := by decide +kernel
theorem dX3_reckonSet_79 : decode cX3_reckonSet 79 = .ok (.ineg, 1) := by decide +kernel
theorem dX3_reckonSet_80 : decode cX3_reckonSet 80 = .ok (.iand, 1) := by decide +kernel
theorem dX3_reckonSet_81 : decode cX3_reckonSet 81 = .ok (.goto 10, 3) := by decide +kernel
theorem dX3_reckonSet_84 : decode cX3_reckonSet 84 = .ok (.aload_n 0, 1) := by decide +kernel
theorem dX3_reckonSet_85 : decode cX3_reckonSet 85 = .ok (.getfield 31, 3) := by decide +kernel
theorem dX3_reckonSet_88 : decode cX3_reckonSet 88 = .ok (.iload 6, 2) := by decide +kernel
theorem dX3_reckonSet_90 : decode cX3_reckonSet 90 = .ok (.iaload, 1) := by decide +kernel
theorem dX3_reckonSet_91 : decode cX3_reckonSet 91 = .ok (.istore 8, 2) := by decide +kernel
theorem dX3_reckonSet_93 : decode cX3_reckonSet 93 = .ok (.iconst 0, 1) := by decide +kernel
theorem dX3_reckonSet_94 : decode cX3_reckonSet 94 = .ok (.istore 9, 2) := by decide +kernel
theorem dX3_reckonSet_96 : decode cX3_reckonSet 96 = .ok (.iload 9, 2) := by decide +kernel
theorem dX3_reckonSet_98 : decode cX3_reckonSet 98 = .ok (.iconst 4, 1) := by decide +kernel
theorem dX3_reckonSet_99 : decode cX3_reckonSet 99 = .ok (.if_icmp .ge 91, 3) := by decide +kernel
theorem dX3_reckonSet_102 : decode cX3_reckonSet 102 = .ok (.iload 8, 2) := by decide +kernel
theorem dX3_reckonSet_104 : decode cX3_reckonSet 104 = .ok (.iload 9, 2) := by decide +kernel
theorem dX3_reckonSet_106 : decode cX3_reckonSet 106 = .ok (.ishr, 1) := by decide +kernel
theorem dX3_reckonSet_107 : decode cX3_reckonSet 107 = .ok (.ifCond .eq 83, 3) := by decide +kernel
theorem dX3_reckonSet_110 : decode cX3_reckonSet 110 = .ok (.iload 8, 2) := by decide +kernel
theorem dX3_reckonSet_112 : decode cX3_reckonSet 112 = .ok (.iload 9, 2) := by decide +kernel
theorem dX3_reckonSet_114 : decode cX3_reckonSet 114 = .ok (.ishr, 1) := by decide +kernel
theorem dX3_reckonSet_115 : decode cX3_reckonSet 115 = .ok (.iconst 1, 1) := by decide +kernel
theorem dX3_reckonSet_116 : decode cX3_reckonSet 116 = .ok (.iand, 1) := by decide +kernel
theorem dX3_reckonSet_117 : decode cX3_reckonSet 117 = .ok (.ifCond .ne 6, 3) := by decide +kernel
theorem dX3_reckonSet_120 : decode cX3_reckonSet 120 = .ok (.goto 64, 3) := by decide +kernel
theorem dX3_reckonSet_123 : decode cX3_reckonSet 123 = .ok (.aload_n 0, 1) := by decide +kernel
theorem dX3_reckonSet_124 : decode cX3_reckonSet 124 = .ok (.iload 6, 2) := by decide +kernel
theorem dX3_reckonSet_126 : decode cX3_reckonSet 126 = .ok (.aload_n 0, 1) := by decide +kernel
theorem dX3_reckonSet_127 : decode cX3_reckonSet 127 = .ok (.iload 7, 2) := by decide +kernel
theorem dX3_reckonSet_129 : decode cX3_reckonSet 129 = .ok (.iload 9, 2) := by decide +kernel
theorem dX3_reckonSet_131 : decode cX3_reckonSet 131 = .ok (.invokevirtual 111, 3) := by decide +kernel
theorem dX3_reckonSet_134 : decode cX3_reckonSet 134 = .ok (.invokevirtual 115, 3) := by decide +kernel
theorem dX3_reckonSet_137 : decode cX3_reckonSet 137 = .ok (.istore 10, 2) := by decide +kernel
theorem dX3_reckonSet_139 : decode cX3_reckonSet 139 = .ok (.iload 9, 2) := by decide +kernel
theorem dX3_reckonSet_141 : decode cX3_reckonSet 141 = .ok (.iload_n 3, 1) := by decide +kernel
theorem dX3_reckonSet_142 : decode cX3_reckonSet 142 = .ok (.if_icmp .ne 13, 3) := by decide +kernel
theorem dX3_reckonSet_145 : decode cX3_reckonSet 145 = .ok (.iload_n 2, 1) := by decide +kernel
theorem dX3_reckonSet_146 : decode cX3_reckonSet 146 = .ok (.iload 10, 2) := by decide +kernel
theorem dX3_reckonSet_148 : decode cX3_reckonSet 148 = .ok (.invokestatic 118, 3) := by decide +kernel
theorem dX3_reckonSet_151 : decode cX3_reckonSet 151 = .ok (.istore_n 2, 1) := by decide +kernel
theorem dX3_reckonSet_152 : decode cX3_reckonSet 152 = .ok (.goto 32, 3) := by decide +kernel
theorem dX3_reckonSet_155 : decode cX3_reckonSet 155 = .ok (.iload 10, 2) := by decide +kernel
theorem dX3_reckonSet_157 : decode cX3_reckonSet 157 = .ok (.iload_n 2, 1) := by decide +kernel
theorem dX3_reckonSet_158 : decode cX3_reckonSet 158 = .ok (.if_icmp .ge 15, 3) := by decide +kernel
theorem dX3_reckonSet_161 : decode cX3_reckonSet 161 = .ok (.iload_n 2, 1) := by decide +kernel
theorem dX3_reckonSet_162 : decode cX3_reckonSet 162 = .ok (.istore 4, 2) := by decide +kernel
theorem dX3_reckonSet_164 : decode cX3_reckonSet 164 = .ok (.iload 10, 2) := by decide +kernel
theorem dX3_reckonSet_166 : decode cX3_reckonSet 166 = .ok (.istore_n 2, 1) := by decide +kernel
theorem dX3_reckonSet_167 : decode cX3_reckonSet 167 = .ok (.iload 9, 2) := by decide +kernel
theorem dX3_reckonSet_169 : decode cX3_reckonSet 169 = .ok (.istore_n 3, 1) := by decide +kernel
theorem dX3_reckonSet_170 : decode cX3_reckonSet 170 = .ok (.goto 14, 3) := by decide +kernel
theorem dX3_reckonSet_173 : decode cX3_reckonSet 173 = .ok (.iload 10, 2) := by decide +kernel
theorem dX3_reckonSet_175 : decode cX3_reckonSet 175 = .ok (.iload 4, 2) := by decide +kernel
theorem dX3_reckonSet_177 : decode cX3_reckonSet 177 = .ok (.if_icmp .ge 7, 3) := by decide +kernel
theorem dX3_reckonSet_180 : decode cX3_reckonSet 180 = .ok (.iload 10, 2) := by decide +kernel
theorem dX3_reckonSet_182 : decode cX3_reckonSet 182 = .ok (.istore 4, 2) := by decide +kernel
theorem dX3_reckonSet_184 : decode cX3_reckonSet 184 = .ok (.iinc 9 1, 3) := by decide +kernel
theorem dX3_reckonSet_187 : decode cX3_reckonSet 187 = .ok (.goto (-91), 3) := by decide +kernel
theorem dX3_reckonSet_190 : decode cX3_reckonSet 190 = .ok (.iinc 6 1, 3) := by decide +kernel
theorem dX3_reckonSet_193 : decode cX3_reckonSet 193 = .ok (.goto (-178), 3) := by decide +kernel
theorem dX3_reckonSet_196 : decode cX3_reckonSet 196 = .ok (.aload_n 0, 1) := by decide +kernel
theorem dX3_reckonSet_197 : decode cX3_reckonSet 197 = .ok (.getfield 48, 3) := by decide +kernel
theorem dX3_reckonSet_200 : decode cX3_reckonSet 200 = .ok (.iload_n 1, 1) := by decide +kernel
theorem dX3_reckonSet_201 : decode cX3_reckonSet 201 = .ok (.iload 5, 2) := by decide +kernel
theorem dX3_reckonSet_203 : decode cX3_reckonSet 203 = .ok (.iastore, 1) := by decide +kernel
theorem dX3_reckonSet_204 : decode cX3_reckonSet 204 = .ok (.aload_n 0, 1) := by decide +kernel
theorem dX3_reckonSet_205 : decode cX3_reckonSet 205 = .ok (.getfield 51, 3) := by decide +kernel
theorem dX3_reckonSet_208 : decode cX3_reckonSet 208 = .ok (.iload_n 1, 1) := by decide +kernel
theorem dX3_reckonSet_209 : decode cX3_reckonSet 209 = .ok (.iload_n 2, 1) := by decide +kernel
theorem dX3_reckonSet_210 : decode cX3_reckonSet 210 = .ok (.iastore, 1) := by decide +kernel
theorem dX3_reckonSet_211 : decode cX3_reckonSet 211 = .ok (.aload_n 0, 1) := by decide +kernel
theorem dX3_reckonSet_212 : decode cX3_reckonSet 212 = .ok (.getfield 54, 3) := by decide +kernel
theorem dX3_reckonSet_215 : decode cX3_reckonSet 215 = .ok (.iload_n 1, 1) := by decide +kernel
theorem dX3_reckonSet_216 : decode cX3_reckonSet 216 = .ok (.iload_n 3, 1) := by decide +kernel
theorem dX3_reckonSet_217 : decode cX3_reckonSet 217 = .ok (.iastore, 1) := by decide +kernel
theorem dX3_reckonSet_218 : decode cX3_reckonSet 218 = .ok (.aload_n 0, 1) := by decide +kernel
theorem dX3_reckonSet_219 : decode cX3_reckonSet 219 = .ok (.getfield 57, 3) := by decide +kernel
theorem dX3_reckonSet_222 : decode cX3_reckonSet 222 = .ok (.iload_n 1, 1) := by decide +kernel
theorem dX3_reckonSet_223 : decode cX3_reckonSet 223 = .ok (.aload_n 0, 1) := by decide +kernel
theorem dX3_reckonSet_224 : decode cX3_reckonSet 224 = .ok (.getfield 38, 3) := by decide +kernel
theorem dX3_reckonSet_227 : decode cX3_reckonSet 227 = .ok (.ifCond .eq 7, 3) := by decide +kernel
theorem dX3_reckonSet_230 : decode cX3_reckonSet 230 = .ok (.iload_n 2, 1) := by decide +kernel
theorem dX3_reckonSet_231 : decode cX3_reckonSet 231 = .ok (.goto 5, 3) := by decide +kernel
theorem dX3_reckonSet_234 : decode cX3_reckonSet 234 = .ok (.iload 4, 2) := by decide +kernel
theorem dX3_reckonSet_236 : decode cX3_reckonSet 236 = .ok (.iastore, 1) := by decide +kernel
theorem dX3_reckonSet_237 : decode cX3_reckonSet 237 = .ok (.return_, 1) := by decide +kernel
theorem dX3_yearNeeded_0 : decode cX3_yearNeeded 0 = .ok (.aload_n 0, 1) := by decide +kernel
theorem dX3_yearNeeded_1 : decode cX3_yearNeeded 1 = .ok (.getfield 54, 3) := by decide +kernel
theorem dX3_yearNeeded_4 : decode cX3_yearNeeded 4 = .ok (.iload_n 1, 1) := by decide +kernel
theorem dX3_yearNeeded_5 : decode cX3_yearNeeded 5 = .ok (.iaload, 1) := by decide +kernel
theorem dX3_yearNeeded_6 : decode cX3_yearNeeded 6 = .ok (.iload_n 2, 1) := by decide +kernel
theorem dX3_yearNeeded_7 : decode cX3_yearNeeded 7 = .ok (.if_icmp .ne 12, 3) := by decide +kernel
theorem dX3_yearNeeded_10 : decode cX3_yearNeeded 10 = .ok (.aload_n 0, 1) := by decide +kernel
theorem dX3_yearNeeded_11 : decode cX3_yearNeeded 11 = .ok (.getfield 57, 3) := by decide +kernel
theorem dX3_yearNeeded_14 : decode cX3_yearNeeded 14 = .ok (.iload_n 1, 1) := by decide +kernel
theorem dX3_yearNeeded_15 : decode cX3_yearNeeded 15 = .ok (.iaload, 1) := by decide +kernel
theorem dX3_yearNeeded_16 : decode cX3_yearNeeded 16 = .ok (.goto 9, 3) := by decide +kernel
theorem dX3_yearNeeded_19 : decode cX3_yearNeeded 19 = .ok (.aload_n 0, 1) := by decide +kernel
theorem dX3_yearNeeded_20 : decode cX3_yearNeeded 20 = .ok (.getfield 51, 3) := by decide +kernel
theorem dX3_yearNeeded_23 : decode cX3_yearNeeded 23 = .ok (.iload_n 1, 1) := by decide +kernel
theorem dX3_yearNeeded_24 : decode cX3_yearNeeded 24 = .ok (.iaload, 1) := by decide +kernel
theorem dX3_yearNeeded_25 : decode cX3_yearNeeded 25 = .ok (.ireturn, 1) := by decide +kernel
theorem dX3_yearAhead_0 : decode cX3_yearAhead 0 = .ok (.aload_n 0, 1) := by decide +kernel
theorem dX3_yearAhead_1 : decode cX3_yearAhead 1 = .ok (.getfield 18, 3) := by decide +kernel
theorem dX3_yearAhead_4 : decode cX3_yearAhead 4 = .ok (.iload_n 1, 1) := by decide +kernel
theorem dX3_yearAhead_5 : decode cX3_yearAhead 5 = .ok (.iaload, 1) := by decide +kernel
theorem dX3_yearAhead_6 : decode cX3_yearAhead 6 = .ok (.iload_n 2, 1) := by decide +kernel
theorem dX3_yearAhead_7 : decode cX3_yearAhead 7 = .ok (.invokestatic 123, 3) := by decide +kernel
theorem dX3_yearAhead_10 : decode cX3_yearAhead 10 = .ok (.istore_n 3, 1) := by decide +kernel
theorem dX3_yearAhead_11 : decode cX3_yearAhead 11 = .ok (.iload_n 3, 1) := by decide +kernel
theorem dX3_yearAhead_12 : decode cX3_yearAhead 12 = .ok (.aload_n 0, 1) := by decide +kernel
theorem dX3_yearAhead_13 : decode cX3_yearAhead 13 = .ok (.getfield 22, 3) := by decide +kernel
theorem dX3_yearAhead_16 : decode cX3_yearAhead 16 = .ok (.iload_n 1, 1) := by decide +kernel
theorem dX3_yearAhead_17 : decode cX3_yearAhead 17 = .ok (.iaload, 1) := by decide +kernel
theorem dX3_yearAhead_18 : decode cX3_yearAhead 18 = .ok (.if_icmp .le 8, 3) := by decide +kernel
theorem dX3_yearAhead_21 : decode cX3_yearAhead 21 = .ok (.ldc 110, 2) := by decide +kernel
theorem dX3_yearAhead_23 : decode cX3_yearAhead 23 = .ok (.goto 11, 3) := by decide +kernel
theorem dX3_yearAhead_26 : decode cX3_yearAhead 26 = .ok (.iload_n 3, 1) := by decide +kernel
theorem dX3_yearAhead_27 : decode cX3_yearAhead 27 = .ok (.aload_n 0, 1) := by decide +kernel
theorem dX3_yearAhead_28 : decode cX3_yearAhead 28 = .ok (.getfield 28, 3) := by decide +kernel
theorem dX3_yearAhead_31 : decode cX3_yearAhead 31 = .ok (.iload_n 1, 1) := by decide +kernel
theorem dX3_yearAhead_32 : decode cX3_yearAhead 32 = .ok (.iaload, 1) := by decide +kernel
theorem dX3_yearAhead_33 : decode cX3_yearAhead 33 = .ok (.iadd, 1) := by decide +kernel
theorem dX3_yearAhead_34 : decode cX3_yearAhead 34 = .ok (.ireturn, 1) := by decide +kernel
theorem dX3_fits_0 : decode cX3_fits 0 = .ok (.iload_n 1, 1) := by decide +kernel
theorem dX3_fits_1 : decode cX3_fits 1 = .ok (.ifCond .lt 27, 3) := by decide +kernel
theorem dX3_fits_4 : decode cX3_fits 4 = .ok (.iload_n 1, 1) := by decide +kernel
theorem dX3_fits_5 : decode cX3_fits 5 = .ok (.iconst 1, 1) := by decide +kernel
theorem dX3_fits_6 : decode cX3_fits 6 = .ok (.aload_n 0, 1) := by decide +kernel
theorem dX3_fits_7 : decode cX3_fits 7 = .ok (.getfield 34, 3) := by decide +kernel
theorem dX3_fits_10 : decode cX3_fits 10 = .ok (.ishl, 1) := by decide +kernel
theorem dX3_fits_11 : decode cX3_fits 11 = .ok (.if_icmp .ge 17, 3) := by decide +kernel
theorem dX3_fits_14 : decode cX3_fits 14 = .ok (.aload_n 0, 1) := by decide +kernel
theorem dX3_fits_15 : decode cX3_fits 15 = .ok (.iload_n 1, 1) := by decide +kernel
theorem dX3_fits_16 : decode cX3_fits 16 = .ok (.iload_n 3, 1) := by decide +kernel
theorem dX3_fits_17 : decode cX3_fits 17 = .ok (.invokevirtual 111, 3) := by decide +kernel
theorem dX3_fits_20 : decode cX3_fits 20 = .ok (.iload_n 2, 1) := by decide +kernel
theorem dX3_fits_21 : decode cX3_fits 21 = .ok (.if_icmp .gt 7, 3) := by decide +kernel
theorem dX3_fits_24 : decode cX3_fits 24 = .ok (.iconst 1, 1) := by decide +kernel
theorem dX3_fits_25 : decode cX3_fits 25 = .ok (.goto 4, 3) := by decide +kernel
theorem dX3_fits_28 : decode cX3_fits 28 = .ok (.iconst 0, 1) := by decide +kernel
theorem dX3_fits_29 : decode cX3_fits 29 = .ok (.ireturn, 1) := by decide +kernel
theorem dX3_yearOf_0 : decode cX3_yearOf 0 = .ok (.aload_n 0, 1) := by decide +kernel
theorem dX3_yearOf_1 : decode cX3_yearOf 1 = .ok (.getfield 22, 3) := by decide +kernel
theorem dX3_yearOf_4 : decode cX3_yearOf 4 = .ok (.iload_n 1, 1) := by decide +kernel
theorem dX3_yearOf_5 : decode cX3_yearOf 5 = .ok (.iaload, 1) := by decide +kernel
theorem dX3_yearOf_6 : decode cX3_yearOf 6 = .ok (.iload_n 2, 1) := by decide +kernel
theorem dX3_yearOf_7 : decode cX3_yearOf 7 = .ok (.aload_n 0, 1) := by decide +kernel
theorem dX3_yearOf_8 : decode cX3_yearOf 8 = .ok (.getfield 28, 3) := by decide +kernel
theorem dX3_yearOf_11 : decode cX3_yearOf 11 = .ok (.iload_n 1, 1) := by decide +kernel
theorem dX3_yearOf_12 : decode cX3_yearOf 12 = .ok (.iaload, 1) := by decide +kernel
theorem dX3_yearOf_13 : decode cX3_yearOf 13 = .ok (.isub, 1) := by decide +kernel
theorem dX3_yearOf_14 : decode cX3_yearOf 14 = .ok (.invokestatic 118, 3) := by decide +kernel
theorem dX3_yearOf_17 : decode cX3_yearOf 17 = .ok (.istore_n 3, 1) := by decide +kernel
theorem dX3_yearOf_18 : decode cX3_yearOf 18 = .ok (.iload_n 3, 1) := by decide +kernel
theorem dX3_yearOf_19 : decode cX3_yearOf 19 = .ok (.aload_n 0, 1) := by decide +kernel
theorem dX3_yearOf_20 : decode cX3_yearOf 20 = .ok (.getfield 18, 3) := by decide +kernel
theorem dX3_yearOf_23 : decode cX3_yearOf 23 = .ok (.iload_n 1, 1) := by decide +kernel
theorem dX3_yearOf_24 : decode cX3_yearOf 24 = .ok (.iaload, 1) := by decide +kernel
theorem dX3_yearOf_25 : decode cX3_yearOf 25 = .ok (.if_icmp .ge 7, 3) := by decide +kernel
theorem dX3_yearOf_28 : decode cX3_yearOf 28 = .ok (.iconst (-1), 1) := by decide +kernel
theorem dX3_yearOf_29 : decode cX3_yearOf 29 = .ok (.goto 4, 3) := by decide +kernel
theorem dX3_yearOf_32 : decode cX3_yearOf 32 = .ok (.iload_n 3, 1) := by decide +kernel
theorem dX3_yearOf_33 : decode cX3_yearOf 33 = .ok (.ireturn, 1) := by decide +kernel
theorem dX3_followers_0 : decode cX3_followers 0 = .ok (.aload_n 0, 1) := by decide +kernel
theorem dX3_followers_1 : decode cX3_followers 1 = .ok (.getfield 38, 3) := by decide +kernel
theorem dX3_followers_4 : decode cX3_followers 4 = .ok (.ifCond .ne 11, 3) := by decide +kernel
theorem dX3_followers_7 : decode cX3_followers 7 = .ok (.iload_n 2, 1) := by decide +kernel
theorem dX3_followers_8 : decode cX3_followers 8 = .ok (.invokestatic 126, 3) := by decide +kernel
theorem dX3_followers_11 : decode cX3_followers 11 = .ok (.iconst 1, 1) := by decide +kernel
theorem dX3_followers_12 : decode cX3_followers 12 = .ok (.if_icmp .le 10, 3) := by decide +kernel
theorem dX3_followers_15 : decode cX3_followers 15 = .ok (.aload_n 0, 1) := by decide +kernel
theorem dX3_followers_16 : decode cX3_followers 16 = .ok (.getfield 31, 3) := by decide +kernel
theorem dX3_followers_19 : decode cX3_followers 19 = .ok (.iload_n 1, 1) := by decide +kernel
theorem dX3_followers_20 : decode cX3_followers 20 = .ok (.iaload, 1) := by decide +kernel
theorem dX3_followers_21 : decode cX3_followers 21 = .ok (.ireturn, 1) := by decide +kernel
theorem dX3_followers_22 : decode cX3_followers 22 = .ok (.aload_n 0, 1) := by decide +kernel
theorem dX3_followers_23 : decode cX3_followers 23 = .ok (.getfield 31, 3) := by decide +kernel
theorem dX3_followers_26 : decode cX3_followers 26 = .ok (.iload_n 1, 1) := by decide +kernel
theorem dX3_followers_27 : decode cX3_followers 27 = .ok (.iaload, 1) := by decide +kernel
theorem dX3_followers_28 : decode cX3_followers 28 = .ok (.iload_n 2, 1) := by decide +kernel
theorem dX3_followers_29 : decode cX3_followers 29 = .ok (.iconst (-1), 1) := by decide +kernel
theorem dX3_followers_30 : decode cX3_followers 30 = .ok (.ixor, 1) := by decide +kernel
theorem dX3_followers_31 : decode cX3_followers 31 = .ok (.iand, 1) := by decide +kernel
theorem dX3_followers_32 : decode cX3_followers 32 = .ok (.ireturn, 1) := by decide +kernel
theorem dX3_choose_0 : decode cX3_choose 0 = .ok (.aload_n 1, 1) := by decide +kernel
theorem dX3_choose_1 : decode cX3_choose 1 = .ok (.invokevirtual 132, 3) := by decide +kernel
theorem dX3_choose_4 : decode cX3_choose 4 = .ok (.istore_n 3, 1) := by decide +kernel
theorem dX3_choose_5 : decode cX3_choose 5 = .ok (.aload_n 1, 1) := by decide +kernel
theorem dX3_choose_6 : decode cX3_choose 6 = .ok (.invokevirtual 136, 3) := by decide +kernel
theorem dX3_choose_9 : decode cX3_choose 9 = .ok (.istore 4, 2) := by decide +kernel
theorem dX3_choose_11 : decode cX3_choose 11 = .ok (.aload_n 1, 1) := by decide +kernel
theorem dX3_choose_12 : decode cX3_choose 12 = .ok (.invokevirtual 139, 3) := by decide +kernel
theorem dX3_choose_15 : decode cX3_choose 15 = .ok (.istore 5, 2) := by decide +kernel
theorem dX3_choose_17 : decode cX3_choose 17 = .ok (.iconst (-1), 1) := by decide +kernel
theorem dX3_choose_18 : decode cX3_choose 18 = .ok (.istore 6, 2) := by decide +kernel
theorem dX3_choose_20 : decode cX3_choose 20 = .ok (.iconst 0, 1) := by decide +kernel
theorem dX3_choose_21 : decode cX3_choose 21 = .ok (.istore 7, 2) := by decide +kernel
theorem dX3_choose_23 : decode cX3_choose 23 = .ok (.iload 7, 2) := by decide +kernel
theorem dX3_choose_25 : decode cX3_choose 25 = .ok (.iconst 1, 1) := by decide +kernel
theorem dX3_choose_26 : decode cX3_choose 26 = .ok (.aload_n 0, 1) := by decide +kernel
theorem dX3_choose_27 : decode cX3_choose 27 = .ok (.getfield 34, 3) := by decide +kernel
theorem dX3_choose_30 : decode cX3_choose 30 = .ok (.ishl, 1) := by decide +kernel
theorem dX3_choose_31 : decode cX3_choose 31 = .ok (.if_icmp .ge 101, 3) := by decide +kernel
theorem dX3_choose_34 : decode cX3_choose 34 = .ok (.iload 7, 2) := by decide +kernel
theorem dX3_choose_36 : decode cX3_choose 36 = .ok (.iload_n 3, 1) := by decide +kernel
theorem dX3_choose_37 : decode cX3_choose 37 = .ok (.iand, 1) := by decide +kernel
theorem dX3_choose_38 : decode cX3_choose 38 = .ok (.ifCond .ne 88, 3) := by decide +kernel
theorem dX3_choose_41 : decode cX3_choose 41 = .ok (.aload_n 0, 1) := by decide +kernel
theorem dX3_choose_42 : decode cX3_choose 42 = .ok (.iload 7, 2) := by decide +kernel
theorem dX3_choose_44 : decode cX3_choose 44 = .ok (.iload 4, 2) := by decide +kernel
theorem dX3_choose_46 : decode cX3_choose 46 = .ok (.iload 5, 2) := by decide +kernel
