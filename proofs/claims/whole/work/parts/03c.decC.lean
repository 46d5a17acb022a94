theorem dX4_sum_16 : decode cX4_sum 16 = .ok (.aload_n 0, 1) := by decide +kernel
theorem dX4_sum_17 : decode cX4_sum 17 = .ok (.getfield 46, 3) := by decide +kernel
theorem dX4_sum_20 : decode cX4_sum 20 = .ok (.iconst (-1), 1) := by decide +kernel
theorem dX4_sum_21 : decode cX4_sum 21 = .ok (.if_icmp .ne 97, 3) := by decide +kernel
theorem dX4_sum_24 : decode cX4_sum 24 = .ok (.aload_n 0, 1) := by decide +kernel
theorem dX4_sum_25 : decode cX4_sum 25 = .ok (.invokevirtual 60, 3) := by decide +kernel
theorem dX4_sum_28 : decode cX4_sum 28 = .ok (.istore 4, 2) := by decide +kernel
theorem dX4_sum_30 : decode cX4_sum 30 = .ok (.iload 4, 2) := by decide +kernel
theorem dX4_sum_32 : decode cX4_sum 32 = .ok (.bipush 42, 2) := by decide +kernel
theorem dX4_sum_34 : decode cX4_sum 34 = .ok (.if_icmp .eq 10, 3) := by decide +kernel
theorem dX4_sum_37 : decode cX4_sum 37 = .ok (.iload 4, 2) := by decide +kernel
theorem dX4_sum_39 : decode cX4_sum 39 = .ok (.bipush 47, 2) := by decide +kernel
theorem dX4_sum_41 : decode cX4_sum 41 = .ok (.if_icmp .ne 28, 3) := by decide +kernel
theorem dX4_sum_44 : decode cX4_sum 44 = .ok (.aload_n 0, 1) := by decide +kernel
theorem dX4_sum_45 : decode cX4_sum 45 = .ok (.dup, 1) := by decide +kernel
theorem dX4_sum_46 : decode cX4_sum 46 = .ok (.getfield 21, 3) := by decide +kernel
theorem dX4_sum_49 : decode cX4_sum 49 = .ok (.iconst 1, 1) := by decide +kernel
theorem dX4_sum_50 : decode cX4_sum 50 = .ok (.iadd, 1) := by decide +kernel
theorem dX4_sum_51 : decode cX4_sum 51 = .ok (.putfield 21, 3) := by decide +kernel
theorem dX4_sum_54 : decode cX4_sum 54 = .ok (.aload_n 0, 1) := by decide +kernel
theorem dX4_sum_55 : decode cX4_sum 55 = .ok (.iload_n 1, 1) := by decide +kernel
theorem dX4_sum_56 : decode cX4_sum 56 = .ok (.invokevirtual 132, 3) := by decide +kernel
theorem dX4_sum_59 : decode cX4_sum 59 = .ok (.aload_n 0, 1) := by decide +kernel
theorem dX4_sum_60 : decode cX4_sum 60 = .ok (.iload 4, 2) := by decide +kernel
theorem dX4_sum_62 : decode cX4_sum 62 = .ok (.iconst 0, 1) := by decide +kernel
theorem dX4_sum_63 : decode cX4_sum 63 = .ok (.invokevirtual 115, 3) := by decide +kernel
theorem dX4_sum_66 : decode cX4_sum 66 = .ok (.goto 46, 3) := by decide +kernel
theorem dX4_sum_69 : decode cX4_sum 69 = .ok (.iload 4, 2) := by decide +kernel
theorem dX4_sum_71 : decode cX4_sum 71 = .ok (.bipush 43, 2) := by decide +kernel
theorem dX4_sum_73 : decode cX4_sum 73 = .ok (.if_icmp .eq 10, 3) := by decide +kernel
theorem dX4_sum_76 : decode cX4_sum 76 = .ok (.iload 4, 2) := by decide +kernel
theorem dX4_sum_78 : decode cX4_sum 78 = .ok (.bipush 45, 2) := by decide +kernel
theorem dX4_sum_80 : decode cX4_sum 80 = .ok (.if_icmp .ne 38, 3) := by decide +kernel
theorem dX4_sum_83 : decode cX4_sum 83 = .ok (.iload_n 2, 1) := by decide +kernel
theorem dX4_sum_84 : decode cX4_sum 84 = .ok (.iconst (-1), 1) := by decide +kernel
theorem dX4_sum_85 : decode cX4_sum 85 = .ok (.if_icmp .eq 9, 3) := by decide +kernel
theorem dX4_sum_88 : decode cX4_sum 88 = .ok (.aload_n 0, 1) := by decide +kernel
theorem dX4_sum_89 : decode cX4_sum 89 = .ok (.iload_n 2, 1) := by decide +kernel
theorem dX4_sum_90 : decode cX4_sum 90 = .ok (.iconst 0, 1) := by decide +kernel
theorem dX4_sum_91 : decode cX4_sum 91 = .ok (.invokevirtual 115, 3) := by decide +kernel
theorem dX4_sum_94 : decode cX4_sum 94 = .ok (.iload 4, 2) := by decide +kernel
theorem dX4_sum_96 : decode cX4_sum 96 = .ok (.istore_n 2, 1) := by decide +kernel
theorem dX4_sum_97 : decode cX4_sum 97 = .ok (.aload_n 0, 1) := by decide +kernel
theorem dX4_sum_98 : decode cX4_sum 98 = .ok (.dup, 1) := by decide +kernel
theorem dX4_sum_99 : decode cX4_sum 99 = .ok (.getfield 21, 3) := by decide +kernel
theorem dX4_sum_102 : decode cX4_sum 102 = .ok (.iconst 1, 1) := by decide +kernel
theorem dX4_sum_103 : decode cX4_sum 103 = .ok (.iadd, 1) := by decide +kernel
theorem dX4_sum_104 : decode cX4_sum 104 = .ok (.putfield 21, 3) := by decide +kernel
theorem dX4_sum_107 : decode cX4_sum 107 = .ok (.aload_n 0, 1) := by decide +kernel
theorem dX4_sum_108 : decode cX4_sum 108 = .ok (.iload_n 1, 1) := by decide +kernel
theorem dX4_sum_109 : decode cX4_sum 109 = .ok (.invokevirtual 132, 3) := by decide +kernel
theorem dX4_sum_112 : decode cX4_sum 112 = .ok (.iinc 3 1, 3) := by decide +kernel
theorem dX4_sum_115 : decode cX4_sum 115 = .ok (.goto (-106), 3) := by decide +kernel
theorem dX4_sum_118 : decode cX4_sum 118 = .ok (.iload_n 2, 1) := by decide +kernel
theorem dX4_sum_119 : decode cX4_sum 119 = .ok (.iconst (-1), 1) := by decide +kernel
theorem dX4_sum_120 : decode cX4_sum 120 = .ok (.if_icmp .eq 9, 3) := by decide +kernel
theorem dX4_sum_123 : decode cX4_sum 123 = .ok (.aload_n 0, 1) := by decide +kernel
theorem dX4_sum_124 : decode cX4_sum 124 = .ok (.iload_n 2, 1) := by decide +kernel
theorem dX4_sum_125 : decode cX4_sum 125 = .ok (.iconst 0, 1) := by decide +kernel
theorem dX4_sum_126 : decode cX4_sum 126 = .ok (.invokevirtual 115, 3) := by decide +kernel
theorem dX4_sum_129 : decode cX4_sum 129 = .ok (.return_, 1) := by decide +kernel
theorem dX4_part_0 : decode cX4_part 0 = .ok (.iload_n 1, 1) := by decide +kernel
theorem dX4_part_1 : decode cX4_part 1 = .ok (.bipush 8, 2) := by decide +kernel
theorem dX4_part_3 : decode cX4_part 3 = .ok (.if_icmp .ge 33, 3) := by decide +kernel
theorem dX4_part_6 : decode cX4_part 6 = .ok (.aload_n 0, 1) := by decide +kernel
theorem dX4_part_7 : decode cX4_part 7 = .ok (.bipush 91, 2) := by decide +kernel
theorem dX4_part_9 : decode cX4_part 9 = .ok (.invokevirtual 56, 3) := by decide +kernel
theorem dX4_part_12 : decode cX4_part 12 = .ok (.ifCond .eq 24, 3) := by decide +kernel
theorem dX4_part_15 : decode cX4_part 15 = .ok (.aload_n 0, 1) := by decide +kernel
theorem dX4_part_16 : decode cX4_part 16 = .ok (.iload_n 1, 1) := by decide +kernel
theorem dX4_part_17 : decode cX4_part 17 = .ok (.iconst 1, 1) := by decide +kernel
theorem dX4_part_18 : decode cX4_part 18 = .ok (.iadd, 1) := by decide +kernel
theorem dX4_part_19 : decode cX4_part 19 = .ok (.invokevirtual 119, 3) := by decide +kernel
theorem dX4_part_22 : decode cX4_part 22 = .ok (.aload_n 0, 1) := by decide +kernel
theorem dX4_part_23 : decode cX4_part 23 = .ok (.bipush 93, 2) := by decide +kernel
theorem dX4_part_25 : decode cX4_part 25 = .ok (.invokevirtual 56, 3) := by decide +kernel
theorem dX4_part_28 : decode cX4_part 28 = .ok (.ifCond .ne 7, 3) := by decide +kernel
theorem dX4_part_31 : decode cX4_part 31 = .ok (.aload_n 0, 1) := by decide +kernel
theorem dX4_part_32 : decode cX4_part 32 = .ok (.invokevirtual 64, 3) := by decide +kernel
theorem dX4_part_35 : decode cX4_part 35 = .ok (.return_, 1) := by decide +kernel
theorem dX4_part_36 : decode cX4_part 36 = .ok (.aload_n 0, 1) := by decide +kernel
theorem dX4_part_37 : decode cX4_part 37 = .ok (.invokevirtual 60, 3) := by decide +kernel
theorem dX4_part_40 : decode cX4_part 40 = .ok (.istore_n 2, 1) := by decide +kernel
theorem dX4_part_41 : decode cX4_part 41 = .ok (.iload_n 2, 1) := by decide +kernel
theorem dX4_part_42 : decode cX4_part 42 = .ok (.sipush 281, 3) := by decide +kernel
theorem dX4_part_45 : decode cX4_part 45 = .ok (.if_icmp .ne 22, 3) := by decide +kernel
theorem dX4_part_48 : decode cX4_part 48 = .ok (.aload_n 0, 1) := by decide +kernel
theorem dX4_part_49 : decode cX4_part 49 = .ok (.getfield 15, 3) := by decide +kernel
theorem dX4_part_52 : decode cX4_part 52 = .ok (.aload_n 0, 1) := by decide +kernel
theorem dX4_part_53 : decode cX4_part 53 = .ok (.getfield 21, 3) := by decide +kernel
theorem dX4_part_56 : decode cX4_part 56 = .ok (.iaload, 1) := by decide +kernel
theorem dX4_part_57 : decode cX4_part 57 = .ok (.sipush 2000, 3) := by decide +kernel
theorem dX4_part_60 : decode cX4_part 60 = .ok (.if_icmp .gt 7, 3) := by decide +kernel
theorem dX4_part_63 : decode cX4_part 63 = .ok (.iconst 1, 1) := by decide +kernel
theorem dX4_part_64 : decode cX4_part 64 = .ok (.goto 4, 3) := by decide +kernel
theorem dX4_part_67 : decode cX4_part 67 = .ok (.iconst 0, 1) := by decide +kernel
theorem dX4_part_68 : decode cX4_part 68 = .ok (.istore_n 3, 1) := by decide +kernel
theorem dX4_part_69 : decode cX4_part 69 = .ok (.iload_n 2, 1) := by decide +kernel
theorem dX4_part_70 : decode cX4_part 70 = .ok (.sipush 263, 3) := by decide +kernel
theorem dX4_part_73 : decode cX4_part 73 = .ok (.if_icmp .lt 14, 3) := by decide +kernel
theorem dX4_part_76 : decode cX4_part 76 = .ok (.iload_n 2, 1) := by decide +kernel
theorem dX4_part_77 : decode cX4_part 77 = .ok (.sipush 270, 3) := by decide +kernel
theorem dX4_part_80 : decode cX4_part 80 = .ok (.if_icmp .gt 7, 3) := by decide +kernel
theorem dX4_part_83 : decode cX4_part 83 = .ok (.iconst 1, 1) := by decide +kernel
theorem dX4_part_84 : decode cX4_part 84 = .ok (.goto 4, 3) := by decide +kernel
theorem dX4_part_87 : decode cX4_part 87 = .ok (.iconst 0, 1) := by decide +kernel
theorem dX4_part_88 : decode cX4_part 88 = .ok (.istore 4, 2) := by decide +kernel
theorem dX4_part_90 : decode cX4_part 90 = .ok (.aload_n 0, 1) := by decide +kernel
theorem dX4_part_91 : decode cX4_part 91 = .ok (.getfield 43, 3) := by decide +kernel
theorem dX4_part_94 : decode cX4_part 94 = .ok (.bipush 50, 2) := by decide +kernel
theorem dX4_part_96 : decode cX4_part 96 = .ok (.if_icmp .ge 20, 3) := by decide +kernel
theorem dX4_part_99 : decode cX4_part 99 = .ok (.aload_n 0, 1) := by decide +kernel
theorem dX4_part_100 : decode cX4_part 100 = .ok (.getfield 46, 3) := by decide +kernel
theorem dX4_part_103 : decode cX4_part 103 = .ok (.iconst (-1), 1) := by decide +kernel
theorem dX4_part_104 : decode cX4_part 104 = .ok (.if_icmp .ne 12, 3) := by decide +kernel
theorem dX4_part_107 : decode cX4_part 107 = .ok (.iload_n 3, 1) := by decide +kernel
theorem dX4_part_108 : decode cX4_part 108 = .ok (.ifCond .ne 13, 3) := by decide +kernel
theorem dX4_part_111 : decode cX4_part 111 = .ok (.iload 4, 2) := by decide +kernel
theorem dX4_part_113 : decode cX4_part 113 = .ok (.ifCond .ne 8, 3) := by decide +kernel
theorem dX4_part_116 : decode cX4_part 116 = .ok (.aload_n 0, 1) := by decide +kernel
theorem dX4_part_117 : decode cX4_part 117 = .ok (.invokevirtual 64, 3) := by decide +kernel
theorem dX4_part_120 : decode cX4_part 120 = .ok (.return_, 1) := by decide +kernel
theorem dX4_part_121 : decode cX4_part 121 = .ok (.aload_n 0, 1) := by decide +kernel
theorem dX4_part_122 : decode cX4_part 122 = .ok (.dup, 1) := by decide +kernel
theorem dX4_part_123 : decode cX4_part 123 = .ok (.getfield 43, 3) := by decide +kernel
theorem dX4_part_126 : decode cX4_part 126 = .ok (.iconst 1, 1) := by decide +kernel
theorem dX4_part_127 : decode cX4_part 127 = .ok (.iadd, 1) := by decide +kernel
theorem dX4_part_128 : decode cX4_part 128 = .ok (.putfield 43, 3) := by decide +kernel
theorem dX4_part_131 : decode cX4_part 131 = .ok (.aload_n 0, 1) := by decide +kernel
theorem dX4_part_132 : decode cX4_part 132 = .ok (.iload_n 3, 1) := by decide +kernel
theorem dX4_part_133 : decode cX4_part 133 = .ok (.ifCond .eq 9, 3) := by decide +kernel
theorem dX4_part_136 : decode cX4_part 136 = .ok (.sipush 281, 3) := by decide +kernel
theorem dX4_part_139 : decode cX4_part 139 = .ok (.goto 6, 3) := by decide +kernel
theorem dX4_part_142 : decode cX4_part 142 = .ok (.sipush 282, 3) := by decide +kernel
theorem dX4_part_145 : decode cX4_part 145 = .ok (.iload_n 3, 1) := by decide +kernel
theorem dX4_part_146 : decode cX4_part 146 = .ok (.ifCond .eq 15, 3) := by decide +kernel
theorem dX4_part_149 : decode cX4_part 149 = .ok (.aload_n 0, 1) := by decide +kernel
theorem dX4_part_150 : decode cX4_part 150 = .ok (.getfield 15, 3) := by decide +kernel
theorem dX4_part_153 : decode cX4_part 153 = .ok (.aload_n 0, 1) := by decide +kernel
theorem dX4_part_154 : decode cX4_part 154 = .ok (.getfield 21, 3) := by decide +kernel
theorem dX4_part_157 : decode cX4_part 157 = .ok (.iaload, 1) := by decide +kernel
theorem dX4_part_158 : decode cX4_part 158 = .ok (.goto 8, 3) := by decide +kernel
theorem dX4_part_161 : decode cX4_part 161 = .ok (.iload_n 2, 1) := by decide +kernel
theorem dX4_part_162 : decode cX4_part 162 = .ok (.sipush 263, 3) := by decide +kernel
theorem dX4_part_165 : decode cX4_part 165 = .ok (.isub, 1) := by decide +kernel
theorem dX4_part_166 : decode cX4_part 166 = .ok (.invokevirtual 115, 3) := by decide +kernel
theorem dX4_part_169 : decode cX4_part 169 = .ok (.aload_n 0, 1) := by decide +kernel
theorem dX4_part_170 : decode cX4_part 170 = .ok (.dup, 1) := by decide +kernel
theorem dX4_part_171 : decode cX4_part 171 = .ok (.getfield 21, 3) := by decide +kernel
theorem dX4_part_174 : decode cX4_part 174 = .ok (.iconst 1, 1) := by decide +kernel
theorem dX4_part_175 : decode cX4_part 175 = .ok (.iadd, 1) := by decide +kernel
theorem dX4_part_176 : decode cX4_part 176 = .ok (.putfield 21, 3) := by decide +kernel
theorem dX4_part_179 : decode cX4_part 179 = .ok (.return_, 1) := by decide +kernel
theorem dX5_init_0 : decode cX5_init 0 = .ok (.aload_n 0, 1) := by decide +kernel
theorem dX5_init_1 : decode cX5_init 1 = .ok (.invokespecial 3, 3) := by decide +kernel
theorem dX5_init_4 : decode cX5_init 4 = .ok (.aload_n 0, 1) := by decide +kernel
theorem dX5_init_5 : decode cX5_init 5 = .ok (.iconst 4, 1) := by decide +kernel
theorem dX5_init_6 : decode cX5_init 6 = .ok (.sipush 1024, 3) := by decide +kernel
theorem dX5_init_9 : decode cX5_init 9 = .ok (.multianewarray 9 2, 4) := by decide +kernel
theorem dX5_init_13 : decode cX5_init 13 = .ok (.putfield 11, 3) := by decide +kernel
theorem dX5_init_16 : decode cX5_init 16 = .ok (.return_, 1) := by decide +kernel
theorem dX5_lay_0 : decode cX5_lay 0 = .ok (.iconst 1, 1) := by decide +kernel
theorem dX5_lay_1 : decode cX5_lay 1 = .ok (.istore_n 3, 1) := by decide +kernel
theorem dX5_lay_2 : decode cX5_lay 2 = .ok (.iload_n 3, 1) := by decide +kernel
theorem dX5_lay_3 : decode cX5_lay 3 = .ok (.iconst 4, 1) := by decide +kernel
theorem dX5_lay_4 : decode cX5_lay 4 = .ok (.if_icmp .ge 64, 3) := by decide +kernel
theorem dX5_lay_7 : decode cX5_lay 7 = .ok (.iload_n 3, 1) := by decide +kernel
theorem dX5_lay_8 : decode cX5_lay 8 = .ok (.iload_n 2, 1) := by decide +kernel
theorem dX5_lay_9 : decode cX5_lay 9 = .ok (.if_icmp .gt 59, 3) := by decide +kernel
theorem dX5_lay_12 : decode cX5_lay 12 = .ok (.iload_n 3, 1) := by decide +kernel
theorem dX5_lay_13 : decode cX5_lay 13 = .ok (.aload_n 1, 1) := by decide +kernel
theorem dX5_lay_14 : decode cX5_lay 14 = .ok (.getfield 16, 3) := by decide +kernel
theorem dX5_lay_17 : decode cX5_lay 17 = .ok (.if_icmp .le 45, 3) := by decide +kernel
theorem dX5_lay_20 : decode cX5_lay 20 = .ok (.iconst 0, 1) := by decide +kernel
theorem dX5_lay_21 : decode cX5_lay 21 = .ok (.istore 4, 2) := by decide +kernel
theorem dX5_lay_23 : decode cX5_lay 23 = .ok (.iload 4, 2) := by decide +kernel
theorem dX5_lay_25 : decode cX5_lay 25 = .ok (.iconst 1, 1) := by decide +kernel
theorem dX5_lay_26 : decode cX5_lay 26 = .ok (.aload_n 1, 1) := by decide +kernel
theorem dX5_lay_27 : decode cX5_lay 27 = .ok (.getfield 22, 3) := by decide +kernel
theorem dX5_lay_30 : decode cX5_lay 30 = .ok (.ishl, 1) := by decide +kernel
theorem dX5_lay_31 : decode cX5_lay 31 = .ok (.if_icmp .ge 26, 3) := by decide +kernel
theorem dX5_lay_34 : decode cX5_lay 34 = .ok (.aload_n 0, 1) := by decide +kernel
theorem dX5_lay_35 : decode cX5_lay 35 = .ok (.getfield 11, 3) := by decide +kernel
theorem dX5_lay_38 : decode cX5_lay 38 = .ok (.iload_n 3, 1) := by decide +kernel
theorem dX5_lay_39 : decode cX5_lay 39 = .ok (.aaload, 1) := by decide +kernel
theorem dX5_lay_40 : decode cX5_lay 40 = .ok (.iload 4, 2) := by decide +kernel
theorem dX5_lay_42 : decode cX5_lay 42 = .ok (.aload_n 0, 1) := by decide +kernel
theorem dX5_lay_43 : decode cX5_lay 43 = .ok (.aload_n 1, 1) := by decide +kernel
theorem dX5_lay_44 : decode cX5_lay 44 = .ok (.iload_n 3, 1) := by decide +kernel
theorem dX5_lay_45 : decode cX5_lay 45 = .ok (.iload 4, 2) := by decide +kernel
theorem dX5_lay_47 : decode cX5_lay 47 = .ok (.invokevirtual 25, 3) := by decide +kernel
theorem dX5_lay_50 : decode cX5_lay 50 = .ok (.iastore, 1) := by decide +kernel
theorem dX5_lay_51 : decode cX5_lay 51 = .ok (.iinc 4 1, 3) := by decide +kernel
theorem dX5_lay_54 : decode cX5_lay 54 = .ok (.goto (-31), 3) := by decide +kernel
theorem dX5_lay_57 : decode cX5_lay 57 = .ok (.aload_n 1, 1) := by decide +kernel
theorem dX5_lay_58 : decode cX5_lay 58 = .ok (.iload_n 3, 1) := by decide +kernel
theorem dX5_lay_59 : decode cX5_lay 59 = .ok (.putfield 16, 3) := by decide +kernel
theorem dX5_lay_62 : decode cX5_lay 62 = .ok (.iinc 3 1, 3) := by decide +kernel
theorem dX5_lay_65 : decode cX5_lay 65 = .ok (.goto (-63), 3) := by decide +kernel
theorem dX5_lay_68 : decode cX5_lay 68 = .ok (.return_, 1) := by decide +kernel
theorem dX5_most_0 : decode cX5_most 0 = .ok (.aload_n 0, 1) := by decide +kernel
theorem dX5_most_1 : decode cX5_most 1 = .ok (.getfield 11, 3) := by decide +kernel
theorem dX5_most_4 : decode cX5_most 4 = .ok (.iload_n 2, 1) := by decide +kernel
theorem dX5_most_5 : decode cX5_most 5 = .ok (.iconst 1, 1) := by decide +kernel
theorem dX5_most_6 : decode cX5_most 6 = .ok (.isub, 1) := by decide +kernel
theorem dX5_most_7 : decode cX5_most 7 = .ok (.aaload, 1) := by decide +kernel
theorem dX5_most_8 : decode cX5_most 8 = .ok (.iload_n 3, 1) := by decide +kernel
theorem dX5_most_9 : decode cX5_most 9 = .ok (.iaload, 1) := by decide +kernel
theorem dX5_most_10 : decode cX5_most 10 = .ok (.istore 4, 2) := by decide +kernel
theorem dX5_most_12 : decode cX5_most 12 = .ok (.iload_n 3, 1) := by decide +kernel
theorem dX5_most_13 : decode cX5_most 13 = .ok (.istore 5, 2) := by decide +kernel
theorem dX5_most_15 : decode cX5_most 15 = .ok (.iconst 0, 1) := by decide +kernel
theorem dX5_most_16 : decode cX5_most 16 = .ok (.istore 6, 2) := by decide +kernel
theorem dX5_most_18 : decode cX5_most 18 = .ok (.iload 6, 2) := by decide +kernel
theorem dX5_most_20 : decode cX5_most 20 = .ok (.sipush 1024, 3) := by decide +kernel
theorem dX5_most_23 : decode cX5_most 23 = .ok (.if_icmp .ge 79, 3) := by decide +kernel
theorem dX5_most_26 : decode cX5_most 26 = .ok (.iload 4, 2) := by decide +kernel
theorem dX5_most_28 : decode cX5_most 28 = .ok (.aload_n 1, 1) := by decide +kernel
theorem dX5_most_29 : decode cX5_most 29 = .ok (.getfield 29, 3) := by decide +kernel
theorem dX5_most_32 : decode cX5_most 32 = .ok (.iload_n 3, 1) := by decide +kernel
theorem dX5_most_33 : decode cX5_most 33 = .ok (.iaload, 1) := by decide +kernel
theorem dX5_most_34 : decode cX5_most 34 = .ok (.if_icmp .ge 68, 3) := by decide +kernel
theorem dX5_most_37 : decode cX5_most 37 = .ok (.aload_n 1, 1) := by decide +kernel
theorem dX5_most_38 : decode cX5_most 38 = .ok (.getfield 33, 3) := by decide +kernel
theorem dX5_most_41 : decode cX5_most 41 = .ok (.iload 5, 2) := by decide +kernel
theorem dX5_most_43 : decode cX5_most 43 = .ok (.iaload, 1) := by decide +kernel
theorem dX5_most_44 : decode cX5_most 44 = .ok (.sipush 10000, 3) := by decide +kernel
theorem dX5_most_47 : decode cX5_most 47 = .ok (.if_icmp .gt 33, 3) := by decide +kernel
theorem dX5_most_50 : decode cX5_most 50 = .ok (.iload 4, 2) := by decide +kernel
theorem dX5_most_52 : decode cX5_most 52 = .ok (.aload_n 1, 1) := by decide +kernel
theorem dX5_most_53 : decode cX5_most 53 = .ok (.getfield 29, 3) := by decide +kernel
theorem dX5_most_56 : decode cX5_most 56 = .ok (.iload 5, 2) := by decide +kernel
theorem dX5_most_58 : decode cX5_most 58 = .ok (.iaload, 1) := by decide +kernel
theorem dX5_most_59 : decode cX5_most 59 = .ok (.aload_n 0, 1) := by decide +kernel
theorem dX5_most_60 : decode cX5_most 60 = .ok (.getfield 11, 3) := by decide +kernel
theorem dX5_most_63 : decode cX5_most 63 = .ok (.iload_n 2, 1) := by decide +kernel
theorem dX5_most_64 : decode cX5_most 64 = .ok (.iconst 1, 1) := by decide +kernel
theorem dX5_most_65 : decode cX5_most 65 = .ok (.isub, 1) := by decide +kernel
theorem dX5_most_66 : decode cX5_most 66 = .ok (.aaload, 1) := by decide +kernel
theorem dX5_most_67 : decode cX5_most 67 = .ok (.iload_n 3, 1) := by decide +kernel
theorem dX5_most_68 : decode cX5_most 68 = .ok (.iload 5, 2) := by decide +kernel
theorem dX5_most_70 : decode cX5_most 70 = .ok (.iconst (-1), 1) := by decide +kernel
theorem dX5_most_71 : decode cX5_most 71 = .ok (.ixor, 1) := by decide +kernel
theorem dX5_most_72 : decode cX5_most 72 = .ok (.iand, 1) := by decide +kernel
theorem dX5_most_73 : decode cX5_most 73 = .ok (.iaload, 1) := by decide +kernel
theorem dX5_most_74 : decode cX5_most 74 = .ok (.iadd, 1) := by decide +kernel
theorem dX5_most_75 : decode cX5_most 75 = .ok (.invokestatic 36, 3) := by decide +kernel
theorem dX5_most_78 : decode cX5_most 78 = .ok (.istore 4, 2) := by decide +kernel
theorem dX5_most_80 : decode cX5_most 80 = .ok (.iload 5, 2) := by decide +kernel
theorem dX5_most_82 : decode cX5_most 82 = .ok (.ifCond .ne 6, 3) := by decide +kernel
theorem dX5_most_85 : decode cX5_most 85 = .ok (.goto 17, 3) := by decide +kernel
theorem dX5_most_88 : decode cX5_most 88 = .ok (.iload 5, 2) := by decide +kernel
theorem dX5_most_90 : decode cX5_most 90 = .ok (.iconst 1, 1) := by decide +kernel
theorem dX5_most_91 : decode cX5_most 91 = .ok (.isub, 1) := by decide +kernel
theorem dX5_most_92 : decode cX5_most 92 = .ok (.iload_n 3, 1) := by decide +kernel
theorem dX5_most_93 : decode cX5_most 93 = .ok (.iand, 1) := by decide +kernel
theorem dX5_most_94 : decode cX5_most 94 = .ok (.istore 5, 2) := by decide +kernel
theorem dX5_most_96 : decode cX5_most 96 = .ok (.iinc 6 1, 3) := by decide +kernel
theorem dX5_most_99 : decode cX5_most 99 = .ok (.goto (-81), 3) := by decide +kernel
theorem dX5_most_102 : decode cX5_most 102 = .ok (.iload 4, 2) := by decide +kernel
theorem dX5_most_104 : decode cX5_most 104 = .ok (.ireturn, 1) := by decide +kernel
theorem dX5_lowest_0 : decode cX5_lowest 0 = .ok (.aload_n 0, 1) := by decide +kernel
theorem dX5_lowest_1 : decode cX5_lowest 1 = .ok (.aload_n 1, 1) := by decide +kernel
theorem dX5_lowest_2 : decode cX5_lowest 2 = .ok (.iload_n 2, 1) := by decide +kernel
theorem dX5_lowest_3 : decode cX5_lowest 3 = .ok (.iload_n 3, 1) := by decide +kernel
theorem dX5_lowest_4 : decode cX5_lowest 4 = .ok (.invokevirtual 25, 3) := by decide +kernel
theorem dX5_lowest_7 : decode cX5_lowest 7 = .ok (.istore 4, 2) := by decide +kernel
theorem dX5_lowest_9 : decode cX5_lowest 9 = .ok (.iconst 0, 1) := by decide +kernel
theorem dX5_lowest_10 : decode cX5_lowest 10 = .ok (.istore 5, 2) := by decide +kernel
theorem dX5_lowest_12 : decode cX5_lowest 12 = .ok (.iload 5, 2) := by decide +kernel
theorem dX5_lowest_14 : decode cX5_lowest 14 = .ok (.iload_n 3, 1) := by decide +kernel
theorem dX5_lowest_15 : decode cX5_lowest 15 = .ok (.if_icmp .gt 62, 3) := by decide +kernel
theorem dX5_lowest_18 : decode cX5_lowest 18 = .ok (.iload 5, 2) := by decide +kernel
theorem dX5_lowest_20 : decode cX5_lowest 20 = .ok (.iload_n 3, 1) := by decide +kernel
theorem dX5_lowest_21 : decode cX5_lowest 21 = .ok (.iconst (-1), 1) := by decide +kernel
theorem dX5_lowest_22 : decode cX5_lowest 22 = .ok (.ixor, 1) := by decide +kernel
theorem dX5_lowest_23 : decode cX5_lowest 23 = .ok (.iand, 1) := by decide +kernel
theorem dX5_lowest_24 : decode cX5_lowest 24 = .ok (.ifCond .ne 47, 3) := by decide +kernel
theorem dX5_lowest_27 : decode cX5_lowest 27 = .ok (.aload_n 1, 1) := by decide +kernel
theorem dX5_lowest_28 : decode cX5_lowest 28 = .ok (.getfield 33, 3) := by decide +kernel
theorem dX5_lowest_31 : decode cX5_lowest 31 = .ok (.iload 5, 2) := by decide +kernel
theorem dX5_lowest_33 : decode cX5_lowest 33 = .ok (.iaload, 1) := by decide +kernel
theorem dX5_lowest_34 : decode cX5_lowest 34 = .ok (.sipush 10000, 3) := by decide +kernel
theorem dX5_lowest_37 : decode cX5_lowest 37 = .ok (.if_icmp .gt 34, 3) := by decide +kernel
theorem dX5_lowest_40 : decode cX5_lowest 40 = .ok (.aload_n 1, 1) := by decide +kernel
theorem dX5_lowest_41 : decode cX5_lowest 41 = .ok (.getfield 29, 3) := by decide +kernel
theorem dX5_lowest_44 : decode cX5_lowest 44 = .ok (.iload 5, 2) := by decide +kernel
theorem dX5_lowest_46 : decode cX5_lowest 46 = .ok (.iaload, 1) := by decide +kernel
theorem dX5_lowest_47 : decode cX5_lowest 47 = .ok (.aload_n 0, 1) := by decide +kernel
theorem dX5_lowest_48 : decode cX5_lowest 48 = .ok (.getfield 11, 3) := by decide +kernel
theorem dX5_lowest_51 : decode cX5_lowest 51 = .ok (.iload_n 2, 1) := by decide +kernel
theorem dX5_lowest_52 : decode cX5_lowest 52 = .ok (.iconst 1, 1) := by decide +kernel
theorem dX5_lowest_53 : decode cX5_lowest 53 = .ok (.isub, 1) := by decide +kernel
theorem dX5_lowest_54 : decode cX5_lowest 54 = .ok (.aaload, 1) := by decide +kernel
theorem dX5_lowest_55 : decode cX5_lowest 55 = .ok (.iload_n 3, 1) := by decide +kernel
theorem dX5_lowest_56 : decode cX5_lowest 56 = .ok (.iload 5, 2) := by decide +kernel
theorem dX5_lowest_58 : decode cX5_lowest 58 = .ok (.iconst (-1), 1) := by decide +kernel
theorem dX5_lowest_59 : decode cX5_lowest 59 = .ok (.ixor, 1) := by decide +kernel
theorem dX5_lowest_60 : decode cX5_lowest 60 = .ok (.iand, 1) := by decide +kernel
theorem dX5_lowest_61 : decode cX5_lowest 61 = .ok (.iaload, 1) := by decide +kernel
theorem dX5_lowest_62 : decode cX5_lowest 62 = .ok (.iadd, 1) := by decide +kernel
theorem dX5_lowest_63 : decode cX5_lowest 63 = .ok (.iload 4, 2) := by decide +kernel
theorem dX5_lowest_65 : decode cX5_lowest 65 = .ok (.if_icmp .ne 6, 3) := by decide +kernel
theorem dX5_lowest_68 : decode cX5_lowest 68 = .ok (.iload 5, 2) := by decide +kernel
theorem dX5_lowest_70 : decode cX5_lowest 70 = .ok (.ireturn, 1) := by decide +kernel
theorem dX5_lowest_71 : decode cX5_lowest 71 = .ok (.iinc 5 1, 3) := by decide +kernel
theorem dX5_lowest_74 : decode cX5_lowest 74 = .ok (.goto (-62), 3) := by decide +kernel
theorem dX5_lowest_77 : decode cX5_lowest 77 = .ok (.iconst 0, 1) := by decide +kernel
theorem dX5_lowest_78 : decode cX5_lowest 78 = .ok (.ireturn, 1) := by decide +kernel
theorem dX6_init_0 : decode cX6_init 0 = .ok (.aload_n 0, 1) := by decide +kernel
theorem dX6_init_1 : decode cX6_init 1 = .ok (.invokespecial 3, 3) := by decide +kernel
theorem dX6_init_4 : decode cX6_init 4 = .ok (.aload_n 0, 1) := by decide +kernel
theorem dX6_init_5 : decode cX6_init 5 = .ok (.bipush 10, 2) := by decide +kernel
theorem dX6_init_7 : decode cX6_init 7 = .ok (.newarray .int, 2) := by decide +kernel
theorem dX6_init_9 : decode cX6_init 9 = .ok (.putfield 9, 3) := by decide +kernel
theorem dX6_init_12 : decode cX6_init 12 = .ok (.aload_n 0, 1) := by decide +kernel
theorem dX6_init_13 : decode cX6_init 13 = .ok (.bipush 10, 2) := by decide +kernel
theorem dX6_init_15 : decode cX6_init 15 = .ok (.newarray .int, 2) := by decide +kernel
theorem dX6_init_17 : decode cX6_init 17 = .ok (.putfield 15, 3) := by decide +kernel
theorem dX6_init_20 : decode cX6_init 20 = .ok (.aload_n 0, 1) := by decide +kernel
theorem dX6_init_21 : decode cX6_init 21 = .ok (.bipush 10, 2) := by decide +kernel
theorem dX6_init_23 : decode cX6_init 23 = .ok (.newarray .int, 2) := by decide +kernel
theorem dX6_init_25 : decode cX6_init 25 = .ok (.putfield 18, 3) := by decide +kernel
theorem dX6_init_28 : decode cX6_init 28 = .ok (.aload_n 0, 1) := by decide +kernel
theorem dX6_init_29 : decode cX6_init 29 = .ok (.bipush 10, 2) := by decide +kernel
theorem dX6_init_31 : decode cX6_init 31 = .ok (.newarray .int, 2) := by decide +kernel
theorem dX6_init_33 : decode cX6_init 33 = .ok (.putfield 21, 3) := by decide +kernel
theorem dX6_init_36 : decode cX6_init 36 = .ok (.aload_n 0, 1) := by decide +kernel
theorem dX6_init_37 : decode cX6_init 37 = .ok (.iconst 0, 1) := by decide +kernel
theorem dX6_init_38 : decode cX6_init 38 = .ok (.putfield 24, 3) := by decide +kernel
theorem dX6_init_41 : decode cX6_init 41 = .ok (.aload_n 0, 1) := by decide +kernel
theorem dX6_init_42 : decode cX6_init 42 = .ok (.iconst 3, 1) := by decide +kernel
theorem dX6_init_43 : decode cX6_init 43 = .ok (.newarray .int, 2) := by decide +kernel
theorem dX6_init_45 : decode cX6_init 45 = .ok (.dup, 1) := by decide +kernel
theorem dX6_init_46 : decode cX6_init 46 = .ok (.iconst 0, 1) := by decide +kernel
theorem dX6_init_47 : decode cX6_init 47 = .ok (.iconst 2, 1) := by decide +kernel
theorem dX6_init_48 : decode cX6_init 48 = .ok (.iastore, 1) := by decide +kernel
theorem dX6_init_49 : decode cX6_init 49 = .ok (.dup, 1) := by decide +kernel
theorem dX6_init_50 : decode cX6_init 50 = .ok (.iconst 1, 1) := by decide +kernel
theorem dX6_init_51 : decode cX6_init 51 = .ok (.iconst 1, 1) := by decide +kernel
theorem dX6_init_52 : decode cX6_init 52 = .ok (.iastore, 1) := by decide +kernel
theorem dX6_init_53 : decode cX6_init 53 = .ok (.dup, 1) := by decide +kernel
theorem dX6_init_54 : decode cX6_init 54 = .ok (.iconst 2, 1) := by decide +kernel
theorem dX6_init_55 : decode cX6_init 55 = .ok (.iconst 0, 1) := by decide +kernel
theorem dX6_init_56 : decode cX6_init 56 = .ok (.iastore, 1) := by decide +kernel
theorem dX6_init_57 : decode cX6_init 57 = .ok (.putfield 28, 3) := by decide +kernel
theorem dX6_init_60 : decode cX6_init 60 = .ok (.aload_n 0, 1) := by decide +kernel
theorem dX6_init_61 : decode cX6_init 61 = .ok (.bipush 6, 2) := by decide +kernel
theorem dX6_init_63 : decode cX6_init 63 = .ok (.anewarray 31, 3) := by decide +kernel
theorem dX6_init_66 : decode cX6_init 66 = .ok (.putfield 33, 3) := by decide +kernel
theorem dX6_init_69 : decode cX6_init 69 = .ok (.aload_n 0, 1) := by decide +kernel
theorem dX6_init_70 : decode cX6_init 70 = .ok (.iconst 0, 1) := by decide +kernel
theorem dX6_init_71 : decode cX6_init 71 = .ok (.putfield 37, 3) := by decide +kernel
theorem dX6_init_74 : decode cX6_init 74 = .ok (.aload_n 0, 1) := by decide +kernel
theorem dX6_init_75 : decode cX6_init 75 = .ok (.iconst (-1), 1) := by decide +kernel
theorem dX6_init_76 : decode cX6_init 76 = .ok (.putfield 40, 3) := by decide +kernel
theorem dX6_init_79 : decode cX6_init 79 = .ok (.aload_n 0, 1) := by decide +kernel
theorem dX6_init_80 : decode cX6_init 80 = .ok (.new 43, 3) := by decide +kernel
theorem dX6_init_83 : decode cX6_init 83 = .ok (.dup, 1) := by decide +kernel
theorem dX6_init_84 : decode cX6_init 84 = .ok (.invokespecial 45, 3) := by decide +kernel
theorem dX6_init_87 : decode cX6_init 87 = .ok (.putfield 46, 3) := by decide +kernel
theorem dX6_init_90 : decode cX6_init 90 = .ok (.aload_n 0, 1) := by decide +kernel
theorem dX6_init_91 : decode cX6_init 91 = .ok (.new 43, 3) := by decide +kernel
theorem dX6_init_94 : decode cX6_init 94 = .ok (.dup, 1) := by decide +kernel
theorem dX6_init_95 : decode cX6_init 95 = .ok (.invokespecial 45, 3) := by decide +kernel
theorem dX6_init_98 : decode cX6_init 98 = .ok (.putfield 50, 3) := by decide +kernel
theorem dX6_init_101 : decode cX6_init 101 = .ok (.aload_n 0, 1) := by decide +kernel
theorem dX6_init_102 : decode cX6_init 102 = .ok (.new 43, 3) := by decide +kernel
theorem dX6_init_105 : decode cX6_init 105 = .ok (.dup, 1) := by decide +kernel
theorem dX6_init_106 : decode cX6_init 106 = .ok (.invokespecial 45, 3) := by decide +kernel
theorem dX6_init_109 : decode cX6_init 109 = .ok (.putfield 53, 3) := by decide +kernel
theorem dX6_init_112 : decode cX6_init 112 = .ok (.return_, 1) := by decide +kernel
theorem dX6_canPut_0 : decode cX6_canPut 0 = .ok (.iload_n 0, 1) := by decide +kernel
theorem dX6_canPut_1 : decode cX6_canPut 1 = .ok (.ifCond .lt 12, 3) := by decide +kernel
theorem dX6_canPut_4 : decode cX6_canPut 4 = .ok (.iload_n 0, 1) := by decide +kernel
theorem dX6_canPut_5 : decode cX6_canPut 5 = .ok (.iconst 3, 1) := by decide +kernel
theorem dX6_canPut_6 : decode cX6_canPut 6 = .ok (.if_icmp .gt 7, 3) := by decide +kernel
theorem dX6_canPut_9 : decode cX6_canPut 9 = .ok (.iload_n 1, 1) := by decide +kernel
theorem dX6_canPut_10 : decode cX6_canPut 10 = .ok (.ifCond .ge 5, 3) := by decide +kernel
theorem dX6_canPut_13 : decode cX6_canPut 13 = .ok (.iconst 0, 1) := by decide +kernel
theorem dX6_canPut_14 : decode cX6_canPut 14 = .ok (.ireturn, 1) := by decide +kernel
theorem dX6_canPut_15 : decode cX6_canPut 15 = .ok (.iload_n 0, 1) := by decide +kernel
theorem dX6_canPut_16 : decode cX6_canPut 16 = .ok (.iconst 2, 1) := by decide +kernel
theorem dX6_canPut_17 : decode cX6_canPut 17 = .ok (.if_icmp .ge 16, 3) := by decide +kernel
theorem dX6_canPut_20 : decode cX6_canPut 20 = .ok (.iload_n 1, 1) := by decide +kernel
theorem dX6_canPut_21 : decode cX6_canPut 21 = .ok (.sipush 2000, 3) := by decide +kernel
theorem dX6_canPut_24 : decode cX6_canPut 24 = .ok (.if_icmp .gt 7, 3) := by decide +kernel
theorem dX6_canPut_27 : decode cX6_canPut 27 = .ok (.iconst 1, 1) := by decide +kernel
theorem dX6_canPut_28 : decode cX6_canPut 28 = .ok (.goto 4, 3) := by decide +kernel
theorem dX6_canPut_31 : decode cX6_canPut 31 = .ok (.iconst 0, 1) := by decide +kernel
theorem dX6_canPut_32 : decode cX6_canPut 32 = .ok (.ireturn, 1) := by decide +kernel
theorem dX6_canPut_33 : decode cX6_canPut 33 = .ok (.iload_n 1, 1) := by decide +kernel
theorem dX6_canPut_34 : decode cX6_canPut 34 = .ok (.iload_n 0, 1) := by decide +kernel
theorem dX6_canPut_35 : decode cX6_canPut 35 = .ok (.iconst 2, 1) := by decide +kernel
theorem dX6_canPut_36 : decode cX6_canPut 36 = .ok (.if_icmp .ne 8, 3) := by decide +kernel
theorem dX6_canPut_39 : decode cX6_canPut 39 = .ok (.bipush 99, 2) := by decide +kernel
theorem dX6_canPut_41 : decode cX6_canPut 41 = .ok (.goto 5, 3) := by decide +kernel
theorem dX6_canPut_44 : decode cX6_canPut 44 = .ok (.bipush 15, 2) := by decide +kernel
theorem dX6_canPut_46 : decode cX6_canPut 46 = .ok (.if_icmp .gt 7, 3) := by decide +kernel
theorem dX6_canPut_49 : decode cX6_canPut 49 = .ok (.iconst 1, 1) := by decide +kernel
theorem dX6_canPut_50 : decode cX6_canPut 50 = .ok (.goto 4, 3) := by decide +kernel
theorem dX6_canPut_53 : decode cX6_canPut 53 = .ok (.iconst 0, 1) := by decide +kernel
theorem dX6_canPut_54 : decode cX6_canPut 54 = .ok (.ireturn, 1) := by decide +kernel
theorem dX6_canBe_0 : decode cX6_canBe 0 = .ok (.iconst 0, 1) := by decide +kernel
theorem dX6_canBe_1 : decode cX6_canBe 1 = .ok (.iload_n 0, 1) := by decide +kernel
theorem dX6_canBe_2 : decode cX6_canBe 2 = .ok (.invokestatic 56, 3) := by decide +kernel
theorem dX6_canBe_5 : decode cX6_canBe 5 = .ok (.ifCond .eq 36, 3) := by decide +kernel
theorem dX6_canBe_8 : decode cX6_canBe 8 = .ok (.iconst 1, 1) := by decide +kernel
theorem dX6_canBe_9 : decode cX6_canBe 9 = .ok (.iload_n 1, 1) := by decide +kernel
theorem dX6_canBe_10 : decode cX6_canBe 10 = .ok (.invokestatic 56, 3) := by decide +kernel
theorem dX6_canBe_13 : decode cX6_canBe 13 = .ok (.ifCond .eq 28, 3) := by decide +kernel
theorem dX6_canBe_16 : decode cX6_canBe 16 = .ok (.iload_n 0, 1) := by decide +kernel
theorem dX6_canBe_17 : decode cX6_canBe 17 = .ok (.iload_n 1, 1) := by decide +kernel
theorem dX6_canBe_18 : decode cX6_canBe 18 = .ok (.if_icmp .gt 23, 3) := by decide +kernel
theorem dX6_canBe_21 : decode cX6_canBe 21 = .ok (.iconst 2, 1) := by decide +kernel
theorem dX6_canBe_22 : decode cX6_canBe 22 = .ok (.iload_n 2, 1) := by decide +kernel
theorem dX6_canBe_23 : decode cX6_canBe 23 = .ok (.invokestatic 56, 3) := by decide +kernel
theorem dX6_canBe_26 : decode cX6_canBe 26 = .ok (.ifCond .eq 15, 3) := by decide +kernel
theorem dX6_canBe_29 : decode cX6_canBe 29 = .ok (.iconst 3, 1) := by decide +kernel
theorem dX6_canBe_30 : decode cX6_canBe 30 = .ok (.iload_n 3, 1) := by decide +kernel
theorem dX6_canBe_31 : decode cX6_canBe 31 = .ok (.invokestatic 56, 3) := by decide +kernel
theorem dX6_canBe_34 : decode cX6_canBe 34 = .ok (.ifCond .eq 7, 3) := by decide +kernel
theorem dX6_canBe_37 : decode cX6_canBe 37 = .ok (.iconst 1, 1) := by decide +kernel
theorem dX6_canBe_38 : decode cX6_canBe 38 = .ok (.goto 4, 3) := by decide +kernel
theorem dX6_canBe_41 : decode cX6_canBe 41 = .ok (.iconst 0, 1) := by decide +kernel
theorem dX6_canBe_42 : decode cX6_canBe 42 = .ok (.ireturn, 1) := by decide +kernel
theorem dX6_add_0 : decode cX6_add 0 = .ok (.aload_n 0, 1) := by decide +kernel
theorem dX6_add_1 : decode cX6_add 1 = .ok (.getfield 24, 3) := by decide +kernel
theorem dX6_add_4 : decode cX6_add 4 = .ok (.bipush 10, 2) := by decide +kernel
theorem dX6_add_6 : decode cX6_add 6 = .ok (.if_icmp .ge 54, 3) := by decide +kernel
theorem dX6_add_9 : decode cX6_add 9 = .ok (.aload_n 0, 1) := by decide +kernel
theorem dX6_add_10 : decode cX6_add 10 = .ok (.getfield 9, 3) := by decide +kernel
theorem dX6_add_13 : decode cX6_add 13 = .ok (.aload_n 0, 1) := by decide +kernel
theorem dX6_add_14 : decode cX6_add 14 = .ok (.getfield 24, 3) := by decide +kernel
theorem dX6_add_17 : decode cX6_add 17 = .ok (.iload_n 1, 1) := by decide +kernel
theorem dX6_add_18 : decode cX6_add 18 = .ok (.iastore, 1) := by decide +kernel
theorem dX6_add_19 : decode cX6_add 19 = .ok (.aload_n 0, 1) := by decide +kernel
theorem dX6_add_20 : decode cX6_add 20 = .ok (.getfield 15, 3) := by decide +kernel
theorem dX6_add_23 : decode cX6_add 23 = .ok (.aload_n 0, 1) := by decide +kernel
theorem dX6_add_24 : decode cX6_add 24 = .ok (.getfield 24, 3) := by decide +kernel
theorem dX6_add_27 : decode cX6_add 27 = .ok (.iload_n 2, 1) := by decide +kernel
theorem dX6_add_28 : decode cX6_add 28 = .ok (.iastore, 1) := by decide +kernel
theorem dX6_add_29 : decode cX6_add 29 = .ok (.aload_n 0, 1) := by decide +kernel
theorem dX6_add_30 : decode cX6_add 30 = .ok (.getfield 18, 3) := by decide +kernel
theorem dX6_add_33 : decode cX6_add 33 = .ok (.aload_n 0, 1) := by decide +kernel
theorem dX6_add_34 : decode cX6_add 34 = .ok (.getfield 24, 3) := by decide +kernel
theorem dX6_add_37 : decode cX6_add 37 = .ok (.iload_n 3, 1) := by decide +kernel
theorem dX6_add_38 : decode cX6_add 38 = .ok (.iastore, 1) := by decide +kernel
theorem dX6_add_39 : decode cX6_add 39 = .ok (.aload_n 0, 1) := by decide +kernel
theorem dX6_add_40 : decode cX6_add 40 = .ok (.getfield 21, 3) := by decide +kernel
theorem dX6_add_43 : decode cX6_add 43 = .ok (.aload_n 0, 1) := by decide +kernel
theorem dX6_add_44 : decode cX6_add 44 = .ok (.getfield 24, 3) := by decide +kernel
theorem dX6_add_47 : decode cX6_add 47 = .ok (.iload 4, 2) := by decide +kernel
theorem dX6_add_49 : decode cX6_add 49 = .ok (.iastore, 1) := by decide +kernel
theorem dX6_add_50 : decode cX6_add 50 = .ok (.aload_n 0, 1) := by decide +kernel
theorem dX6_add_51 : decode cX6_add 51 = .ok (.dup, 1) := by decide +kernel
theorem dX6_add_52 : decode cX6_add 52 = .ok (.getfield 24, 3) := by decide +kernel
theorem dX6_add_55 : decode cX6_add 55 = .ok (.iconst 1, 1) := by decide +kernel
theorem dX6_add_56 : decode cX6_add 56 = .ok (.iadd, 1) := by decide +kernel
theorem dX6_add_57 : decode cX6_add 57 = .ok (.putfield 24, 3) := by decide +kernel
theorem dX6_add_60 : decode cX6_add 60 = .ok (.return_, 1) := by decide +kernel
theorem dX6_has_0 : decode cX6_has 0 = .ok (.iload_n 1, 1) := by decide +kernel
theorem dX6_has_1 : decode cX6_has 1 = .ok (.ifCond .lt 15, 3) := by decide +kernel
theorem dX6_has_4 : decode cX6_has 4 = .ok (.iload_n 1, 1) := by decide +kernel
theorem dX6_has_5 : decode cX6_has 5 = .ok (.aload_n 0, 1) := by decide +kernel
theorem dX6_has_6 : decode cX6_has 6 = .ok (.getfield 24, 3) := by decide +kernel
theorem dX6_has_9 : decode cX6_has 9 = .ok (.if_icmp .ge 7, 3) := by decide +kernel
theorem dX6_has_12 : decode cX6_has 12 = .ok (.iconst 1, 1) := by decide +kernel
theorem dX6_has_13 : decode cX6_has 13 = .ok (.goto 4, 3) := by decide +kernel
theorem dX6_has_16 : decode cX6_has 16 = .ok (.iconst 0, 1) := by decide +kernel
theorem dX6_has_17 : decode cX6_has 17 = .ok (.ireturn, 1) := by decide +kernel
theorem dX6_seats_0 : decode cX6_seats 0 = .ok (.iload_n 1, 1) := by decide +kernel
theorem dX6_seats_1 : decode cX6_seats 1 = .ok (.ifCond .lt 17, 3) := by decide +kernel
theorem dX6_seats_4 : decode cX6_seats 4 = .ok (.iload_n 1, 1) := by decide +kernel
theorem dX6_seats_5 : decode cX6_seats 5 = .ok (.aload_n 0, 1) := by decide +kernel
theorem dX6_seats_6 : decode cX6_seats 6 = .ok (.getfield 28, 3) := by decide +kernel
theorem dX6_seats_9 : decode cX6_seats 9 = .ok (.iconst 0, 1) := by decide +kernel
theorem dX6_seats_10 : decode cX6_seats 10 = .ok (.iaload, 1) := by decide +kernel
theorem dX6_seats_11 : decode cX6_seats 11 = .ok (.if_icmp .ge 7, 3) := by decide +kernel
theorem dX6_seats_14 : decode cX6_seats 14 = .ok (.iconst 1, 1) := by decide +kernel
theorem dX6_seats_15 : decode cX6_seats 15 = .ok (.goto 4, 3) := by decide +kernel
theorem dX6_seats_18 : decode cX6_seats 18 = .ok (.iconst 0, 1) := by decide +kernel
theorem dX6_seats_19 : decode cX6_seats 19 = .ok (.ireturn, 1) := by decide +kernel
theorem dX6_column_0 : decode cX6_column 0 = .ok (.iload_n 1, 1) := by decide +kernel
theorem dX6_column_1 : decode cX6_column 1 = .ok (.ifCond .ne 8, 3) := by decide +kernel
theorem dX6_column_4 : decode cX6_column 4 = .ok (.aload_n 0, 1) := by decide +kernel
theorem dX6_column_5 : decode cX6_column 5 = .ok (.getfield 9, 3) := by decide +kernel
theorem dX6_column_8 : decode cX6_column 8 = .ok (.areturn, 1) := by decide +kernel
theorem dX6_column_9 : decode cX6_column 9 = .ok (.iload_n 1, 1) := by decide +kernel
theorem dX6_column_10 : decode cX6_column 10 = .ok (.iconst 1, 1) := by decide +kernel
theorem dX6_column_11 : decode cX6_column 11 = .ok (.if_icmp .ne 8, 3) := by decide +kernel
theorem dX6_column_14 : decode cX6_column 14 = .ok (.aload_n 0, 1) := by decide +kernel
theorem dX6_column_15 : decode cX6_column 15 = .ok (.getfield 15, 3) := by decide +kernel
theorem dX6_column_18 : decode cX6_column 18 = .ok (.areturn, 1) := by decide +kernel
theorem dX6_column_19 : decode cX6_column 19 = .ok (.iload_n 1, 1) := by decide +kernel
theorem dX6_column_20 : decode cX6_column 20 = .ok (.iconst 2, 1) := by decide +kernel
theorem dX6_column_21 : decode cX6_column 21 = .ok (.if_icmp .ne 10, 3) := by decide +kernel
theorem dX6_column_24 : decode cX6_column 24 = .ok (.aload_n 0, 1) := by decide +kernel
theorem dX6_column_25 : decode cX6_column 25 = .ok (.getfield 18, 3) := by decide +kernel
theorem dX6_column_28 : decode cX6_column 28 = .ok (.goto 7, 3) := by decide +kernel
theorem dX6_column_31 : decode cX6_column 31 = .ok (.aload_n 0, 1) := by decide +kernel
theorem dX6_column_32 : decode cX6_column 32 = .ok (.getfield 21, 3) := by decide +kernel
theorem dX6_column_35 : decode cX6_column 35 = .ok (.areturn, 1) := by decide +kernel
theorem dX6_all_0 : decode cX6_all 0 = .ok (.iconst 1, 1) := by decide +kernel
theorem dX6_all_1 : decode cX6_all 1 = .ok (.aload_n 0, 1) := by decide +kernel
theorem dX6_all_2 : decode cX6_all 2 = .ok (.getfield 24, 3) := by decide +kernel
theorem dX6_all_5 : decode cX6_all 5 = .ok (.ishl, 1) := by decide +kernel
theorem dX6_all_6 : decode cX6_all 6 = .ok (.iconst 1, 1) := by decide +kernel
theorem dX6_all_7 : decode cX6_all 7 = .ok (.isub, 1) := by decide +kernel
theorem dX6_all_8 : decode cX6_all 8 = .ok (.ireturn, 1) := by decide +kernel
theorem dX6_toldSet_0 : decode cX6_toldSet 0 = .ok (.iconst 0, 1) := by decide +kernel
theorem dX6_toldSet_1 : decode cX6_toldSet 1 = .ok (.istore_n 1, 1) := by decide +kernel
theorem dX6_toldSet_2 : decode cX6_toldSet 2 = .ok (.iconst 0, 1) := by decide +kernel
theorem dX6_toldSet_3 : decode cX6_toldSet 3 = .ok (.istore_n 2, 1) := by decide +kernel
theorem dX6_toldSet_4 : decode cX6_toldSet 4 = .ok (.iload_n 2, 1) := by decide +kernel
theorem dX6_toldSet_5 : decode cX6_toldSet 5 = .ok (.aload_n 0, 1) := by decide +kernel
theorem dX6_toldSet_6 : decode cX6_toldSet 6 = .ok (.getfield 46, 3) := by decide +kernel
theorem dX6_toldSet_9 : decode cX6_toldSet 9 = .ok (.getfield 60, 3) := by decide +kernel
theorem dX6_toldSet_12 : decode cX6_toldSet 12 = .ok (.if_icmp .ge 23, 3) := by decide +kernel
theorem dX6_toldSet_15 : decode cX6_toldSet 15 = .ok (.iload_n 1, 1) := by decide +kernel
theorem dX6_toldSet_16 : decode cX6_toldSet 16 = .ok (.iconst 1, 1) := by decide +kernel
theorem dX6_toldSet_17 : decode cX6_toldSet 17 = .ok (.aload_n 0, 1) := by decide +kernel
theorem dX6_toldSet_18 : decode cX6_toldSet 18 = .ok (.getfield 46, 3) := by decide +kernel
theorem dX6_toldSet_21 : decode cX6_toldSet 21 = .ok (.getfield 63, 3) := by decide +kernel
theorem dX6_toldSet_24 : decode cX6_toldSet 24 = .ok (.iload_n 2, 1) := by decide +kernel
theorem dX6_toldSet_25 : decode cX6_toldSet 25 = .ok (.iaload, 1) := by decide +kernel
theorem dX6_toldSet_26 : decode cX6_toldSet 26 = .ok (.ishl, 1) := by decide +kernel
theorem dX6_toldSet_27 : decode cX6_toldSet 27 = .ok (.ior, 1) := by decide +kernel
theorem dX6_toldSet_28 : decode cX6_toldSet 28 = .ok (.istore_n 1, 1) := by decide +kernel
theorem dX6_toldSet_29 : decode cX6_toldSet 29 = .ok (.iinc 2 1, 3) := by decide +kernel
theorem dX6_toldSet_32 : decode cX6_toldSet 32 = .ok (.goto (-28), 3) := by decide +kernel
theorem dX6_toldSet_35 : decode cX6_toldSet 35 = .ok (.iload_n 1, 1) := by decide +kernel
theorem dX6_toldSet_36 : decode cX6_toldSet 36 = .ok (.ireturn, 1) := by decide +kernel
theorem dX6_untold_0 : decode cX6_untold 0 = .ok (.aload_n 0, 1) := by decide +kernel
theorem dX6_untold_1 : decode cX6_untold 1 = .ok (.invokevirtual 66, 3) := by decide +kernel
theorem dX6_untold_4 : decode cX6_untold 4 = .ok (.aload_n 0, 1) := by decide +kernel
theorem dX6_untold_5 : decode cX6_untold 5 = .ok (.invokevirtual 70, 3) := by decide +kernel
theorem dX6_untold_8 : decode cX6_untold 8 = .ok (.iconst (-1), 1) := by decide +kernel
theorem dX6_untold_9 : decode cX6_untold 9 = .ok (.ixor, 1) := by decide +kernel
theorem dX6_untold_10 : decode cX6_untold 10 = .ok (.iand, 1) := by decide +kernel
theorem dX6_untold_11 : decode cX6_untold 11 = .ok (.ireturn, 1) := by decide +kernel
theorem dX6_lastYear_0 : decode cX6_lastYear 0 = .ok (.aload_n 0, 1) := by decide +kernel
theorem dX6_lastYear_1 : decode cX6_lastYear 1 = .ok (.getfield 46, 3) := by decide +kernel
theorem dX6_lastYear_4 : decode cX6_lastYear 4 = .ok (.getfield 60, 3) := by decide +kernel
theorem dX6_lastYear_7 : decode cX6_lastYear 7 = .ok (.ifCond .le 23, 3) := by decide +kernel
theorem dX6_lastYear_10 : decode cX6_lastYear 10 = .ok (.aload_n 0, 1) := by decide +kernel
theorem dX6_lastYear_11 : decode cX6_lastYear 11 = .ok (.getfield 46, 3) := by decide +kernel
theorem dX6_lastYear_14 : decode cX6_lastYear 14 = .ok (.getfield 73, 3) := by decide +kernel
theorem dX6_lastYear_17 : decode cX6_lastYear 17 = .ok (.aload_n 0, 1) := by decide +kernel
theorem dX6_lastYear_18 : decode cX6_lastYear 18 = .ok (.getfield 46, 3) := by decide +kernel
theorem dX6_lastYear_21 : decode cX6_lastYear 21 = .ok (.getfield 60, 3) := by decide +kernel
theorem dX6_lastYear_24 : decode cX6_lastYear 24 = .ok (.iconst 1, 1) := by decide +kernel
theorem dX6_lastYear_25 : decode cX6_lastYear 25 = .ok (.isub, 1) := by decide +kernel
theorem dX6_lastYear_26 : decode cX6_lastYear 26 = .ok (.iaload, 1) := by decide +kernel
theorem dX6_lastYear_27 : decode cX6_lastYear 27 = .ok (.goto 6, 3) := by decide +kernel
theorem dX6_lastYear_30 : decode cX6_lastYear 30 = .ok (.sipush 10000, 3) := by decide +kernel
theorem dX6_lastYear_33 : decode cX6_lastYear 33 = .ok (.ireturn, 1) := by decide +kernel
theorem dX6_lastTeller_0 : decode cX6_lastTeller 0 = .ok (.aload_n 0, 1) := by decide +kernel
theorem dX6_lastTeller_1 : decode cX6_lastTeller 1 = .ok (.getfield 46, 3) := by decide +kernel
theorem dX6_lastTeller_4 : decode cX6_lastTeller 4 = .ok (.getfield 60, 3) := by decide +kernel
theorem dX6_lastTeller_7 : decode cX6_lastTeller 7 = .ok (.ifCond .le 23, 3) := by decide +kernel
theorem dX6_lastTeller_10 : decode cX6_lastTeller 10 = .ok (.aload_n 0, 1) := by decide +kernel
theorem dX6_lastTeller_11 : decode cX6_lastTeller 11 = .ok (.getfield 46, 3) := by decide +kernel
theorem dX6_lastTeller_14 : decode cX6_lastTeller 14 = .ok (.getfield 76, 3) := by decide +kernel
theorem dX6_lastTeller_17 : decode cX6_lastTeller 17 = .ok (.aload_n 0, 1) := by decide +kernel
theorem dX6_lastTeller_18 : decode cX6_lastTeller 18 = .ok (.getfield 46, 3) := by decide +kernel
theorem dX6_lastTeller_21 : decode cX6_lastTeller 21 = .ok (.getfield 60, 3) := by decide +kernel
theorem dX6_lastTeller_24 : decode cX6_lastTeller 24 = .ok (.iconst 1, 1) := by decide +kernel
theorem dX6_lastTeller_25 : decode cX6_lastTeller 25 = .ok (.isub, 1) := by decide +kernel
theorem dX6_lastTeller_26 : decode cX6_lastTeller 26 = .ok (.iaload, 1) := by decide +kernel
theorem dX6_lastTeller_27 : decode cX6_lastTeller 27 = .ok (.goto 4, 3) := by decide +kernel
theorem dX6_lastTeller_30 : decode cX6_lastTeller 30 = .ok (.iconst 4, 1) := by decide +kernel
theorem dX6_lastTeller_31 : decode cX6_lastTeller 31 = .ok (.ireturn, 1) := by decide +kernel
theorem dX6_lawInForce_0 : decode cX6_lawInForce 0 = .ok (.aload_n 0, 1) := by decide +kernel
theorem dX6_lawInForce_1 : decode cX6_lawInForce 1 = .ok (.getfield 40, 3) := by decide +kernel
theorem dX6_lawInForce_4 : decode cX6_lawInForce 4 = .ok (.ifCond .lt 26, 3) := by decide +kernel
theorem dX6_lawInForce_7 : decode cX6_lawInForce 7 = .ok (.aload_n 0, 1) := by decide +kernel
theorem dX6_lawInForce_8 : decode cX6_lawInForce 8 = .ok (.getfield 40, 3) := by decide +kernel
theorem dX6_lawInForce_11 : decode cX6_lawInForce 11 = .ok (.aload_n 0, 1) := by decide +kernel
theorem dX6_lawInForce_12 : decode cX6_lawInForce 12 = .ok (.getfield 37, 3) := by decide +kernel
theorem dX6_lawInForce_15 : decode cX6_lawInForce 15 = .ok (.if_icmp .ge 15, 3) := by decide +kernel
theorem dX6_lawInForce_18 : decode cX6_lawInForce 18 = .ok (.aload_n 0, 1) := by decide +kernel
theorem dX6_lawInForce_19 : decode cX6_lawInForce 19 = .ok (.getfield 33, 3) := by decide +kernel
theorem dX6_lawInForce_22 : decode cX6_lawInForce 22 = .ok (.aload_n 0, 1) := by decide +kernel
theorem dX6_lawInForce_23 : decode cX6_lawInForce 23 = .ok (.getfield 40, 3) := by decide +kernel
theorem dX6_lawInForce_26 : decode cX6_lawInForce 26 = .ok (.aaload, 1) := by decide +kernel
theorem dX6_lawInForce_27 : decode cX6_lawInForce 27 = .ok (.goto 4, 3) := by decide +kernel
theorem dX6_lawInForce_30 : decode cX6_lawInForce 30 = .ok (.aconst_null, 1) := by decide +kernel
theorem dX6_lawInForce_31 : decode cX6_lawInForce 31 = .ok (.areturn, 1) := by decide +kernel
theorem dX6_copyFrom_0 : decode cX6_copyFrom 0 = .ok (.aload_n 1, 1) := by decide +kernel
theorem dX6_copyFrom_1 : decode cX6_copyFrom 1 = .ok (.getfield 9, 3) := by decide +kernel
theorem dX6_copyFrom_4 : decode cX6_copyFrom 4 = .ok (.iconst 0, 1) := by decide +kernel
theorem dX6_copyFrom_5 : decode cX6_copyFrom 5 = .ok (.aload_n 0, 1) := by decide +kernel
theorem dX6_copyFrom_6 : decode cX6_copyFrom 6 = .ok (.getfield 9, 3) := by decide +kernel
theorem dX6_copyFrom_9 : decode cX6_copyFrom 9 = .ok (.iconst 0, 1) := by decide +kernel
theorem dX6_copyFrom_10 : decode cX6_copyFrom 10 = .ok (.bipush 10, 2) := by decide +kernel
theorem dX6_copyFrom_12 : decode cX6_copyFrom 12 = .ok (.invokestatic 79, 3) := by decide +kernel
theorem dX6_copyFrom_15 : decode cX6_copyFrom 15 = .ok (.aload_n 1, 1) := by decide +kernel
theorem dX6_copyFrom_16 : decode cX6_copyFrom 16 = .ok (.getfield 15, 3) := by decide +kernel
theorem dX6_copyFrom_19 : decode cX6_copyFrom 19 = .ok (.iconst 0, 1) := by decide +kernel
theorem dX6_copyFrom_20 : decode cX6_copyFrom 20 = .ok (.aload_n 0, 1) := by decide +kernel
theorem dX6_copyFrom_21 : decode cX6_copyFrom 21 = .ok (.getfield 15, 3) := by decide +kernel
theorem dX6_copyFrom_24 : decode cX6_copyFrom 24 = .ok (.iconst 0, 1) := by decide +kernel
theorem dX6_copyFrom_25 : decode cX6_copyFrom 25 = .ok (.bipush 10, 2) := by decide +kernel
theorem dX6_copyFrom_27 : decode cX6_copyFrom 27 = .ok (.invokestatic 79, 3) := by decide +kernel
theorem dX6_copyFrom_30 : decode cX6_copyFrom 30 = .ok (.aload_n 1, 1) := by decide +kernel
theorem dX6_copyFrom_31 : decode cX6_copyFrom 31 = .ok (.getfield 18, 3) := by decide +kernel
theorem dX6_copyFrom_34 : decode cX6_copyFrom 34 = .ok (.iconst 0, 1) := by decide +kernel
theorem dX6_copyFrom_35 : decode cX6_copyFrom 35 = .ok (.aload_n 0, 1) := by decide +kernel
theorem dX6_copyFrom_36 : decode cX6_copyFrom 36 = .ok (.getfield 18, 3) := by decide +kernel
theorem dX6_copyFrom_39 : decode cX6_copyFrom 39 = .ok (.iconst 0, 1) := by decide +kernel
theorem dX6_copyFrom_40 : decode cX6_copyFrom 40 = .ok (.bipush 10, 2) := by decide +kernel
theorem dX6_copyFrom_42 : decode cX6_copyFrom 42 = .ok (.invokestatic 79, 3) := by decide +kernel
theorem dX6_copyFrom_45 : decode cX6_copyFrom 45 = .ok (.aload_n 1, 1) := by decide +kernel
theorem dX6_copyFrom_46 : decode cX6_copyFrom 46 = .ok (.getfield 21, 3) := by decide +kernel
theorem dX6_copyFrom_49 : decode cX6_copyFrom 49 = .ok (.iconst 0, 1) := by decide +kernel
theorem dX6_copyFrom_50 : decode cX6_copyFrom 50 = .ok (.aload_n 0, 1) := by decide +kernel
theorem dX6_copyFrom_51 : decode cX6_copyFrom 51 = .ok (.getfield 21, 3) := by decide +kernel
theorem dX6_copyFrom_54 : decode cX6_copyFrom 54 = .ok (.iconst 0, 1) := by decide +kernel
theorem dX6_copyFrom_55 : decode cX6_copyFrom 55 = .ok (.bipush 10, 2) := by decide +kernel
theorem dX6_copyFrom_57 : decode cX6_copyFrom 57 = .ok (.invokestatic 79, 3) := by decide +kernel
theorem dX6_copyFrom_60 : decode cX6_copyFrom 60 = .ok (.aload_n 0, 1) := by decide +kernel
theorem dX6_copyFrom_61 : decode cX6_copyFrom 61 = .ok (.aload_n 1, 1) := by decide +kernel
theorem dX6_copyFrom_62 : decode cX6_copyFrom 62 = .ok (.getfield 24, 3) := by decide +kernel
theorem dX6_copyFrom_65 : decode cX6_copyFrom 65 = .ok (.putfield 24, 3) := by decide +kernel
theorem dX6_copyFrom_68 : decode cX6_copyFrom 68 = .ok (.aload_n 1, 1) := by decide +kernel
theorem dX6_copyFrom_69 : decode cX6_copyFrom 69 = .ok (.getfield 28, 3) := by decide +kernel
theorem dX6_copyFrom_72 : decode cX6_copyFrom 72 = .ok (.iconst 0, 1) := by decide +kernel
theorem dX6_copyFrom_73 : decode cX6_copyFrom 73 = .ok (.aload_n 0, 1) := by decide +kernel
theorem dX6_copyFrom_74 : decode cX6_copyFrom 74 = .ok (.getfield 28, 3) := by decide +kernel
theorem dX6_copyFrom_77 : decode cX6_copyFrom 77 = .ok (.iconst 0, 1) := by decide +kernel
theorem dX6_copyFrom_78 : decode cX6_copyFrom 78 = .ok (.aload_n 0, 1) := by decide +kernel
theorem dX6_copyFrom_79 : decode cX6_copyFrom 79 = .ok (.getfield 28, 3) := by decide +kernel
theorem dX6_copyFrom_82 : decode cX6_copyFrom 82 = .ok (.arraylength, 1) := by decide +kernel
theorem dX6_copyFrom_83 : decode cX6_copyFrom 83 = .ok (.invokestatic 79, 3) := by decide +kernel
theorem dX6_copyFrom_86 : decode cX6_copyFrom 86 = .ok (.iconst 0, 1) := by decide +kernel
theorem dX6_copyFrom_87 : decode cX6_copyFrom 87 = .ok (.istore_n 2, 1) := by decide +kernel
theorem dX6_copyFrom_88 : decode cX6_copyFrom 88 = .ok (.iload_n 2, 1) := by decide +kernel
theorem dX6_copyFrom_89 : decode cX6_copyFrom 89 = .ok (.bipush 6, 2) := by decide +kernel
theorem dX6_copyFrom_91 : decode cX6_copyFrom 91 = .ok (.if_icmp .ge 21, 3) := by decide +kernel
theorem dX6_copyFrom_94 : decode cX6_copyFrom 94 = .ok (.aload_n 0, 1) := by decide +kernel
theorem dX6_copyFrom_95 : decode cX6_copyFrom 95 = .ok (.getfield 33, 3) := by decide +kernel
theorem dX6_copyFrom_98 : decode cX6_copyFrom 98 = .ok (.iload_n 2, 1) := by decide +kernel
theorem dX6_copyFrom_99 : decode cX6_copyFrom 99 = .ok (.aload_n 1, 1) := by decide +kernel
theorem dX6_copyFrom_100 : decode cX6_copyFrom 100 = .ok (.getfield 33, 3) := by decide +kernel
theorem dX6_copyFrom_103 : decode cX6_copyFrom 103 = .ok (.iload_n 2, 1) := by decide +kernel
theorem dX6_copyFrom_104 : decode cX6_copyFrom 104 = .ok (.aaload, 1) := by decide +kernel
theorem dX6_copyFrom_105 : decode cX6_copyFrom 105 = .ok (.aastore, 1) := by decide +kernel
theorem dX6_copyFrom_106 : decode cX6_copyFrom 106 = .ok (.iinc 2 1, 3) := by decide +kernel
theorem dX6_copyFrom_109 : decode cX6_copyFrom 109 = .ok (.goto (-21), 3) := by decide +kernel
theorem dX6_copyFrom_112 : decode cX6_copyFrom 112 = .ok (.aload_n 0, 1) := by decide +kernel
theorem dX6_copyFrom_113 : decode cX6_copyFrom 113 = .ok (.aload_n 1, 1) := by decide +kernel
theorem dX6_copyFrom_114 : decode cX6_copyFrom 114 = .ok (.getfield 37, 3) := by decide +kernel
theorem dX6_copyFrom_117 : decode cX6_copyFrom 117 = .ok (.putfield 37, 3) := by decide +kernel
theorem dX6_copyFrom_120 : decode cX6_copyFrom 120 = .ok (.aload_n 0, 1) := by decide +kernel
theorem dX6_copyFrom_121 : decode cX6_copyFrom 121 = .ok (.aload_n 1, 1) := by decide +kernel
theorem dX6_copyFrom_122 : decode cX6_copyFrom 122 = .ok (.getfield 40, 3) := by decide +kernel
theorem dX6_copyFrom_125 : decode cX6_copyFrom 125 = .ok (.putfield 40, 3) := by decide +kernel
theorem dX6_copyFrom_128 : decode cX6_copyFrom 128 = .ok (.aload_n 0, 1) := by decide +kernel
theorem dX6_copyFrom_129 : decode cX6_copyFrom 129 = .ok (.getfield 46, 3) := by decide +kernel
theorem dX6_copyFrom_132 : decode cX6_copyFrom 132 = .ok (.aload_n 1, 1) := by decide +kernel
theorem dX6_copyFrom_133 : decode cX6_copyFrom 133 = .ok (.getfield 46, 3) := by decide +kernel
theorem dX6_copyFrom_136 : decode cX6_copyFrom 136 = .ok (.invokevirtual 85, 3) := by decide +kernel
theorem dX6_copyFrom_139 : decode cX6_copyFrom 139 = .ok (.aload_n 0, 1) := by decide +kernel
theorem dX6_copyFrom_140 : decode cX6_copyFrom 140 = .ok (.getfield 50, 3) := by decide +kernel
theorem dX6_copyFrom_143 : decode cX6_copyFrom 143 = .ok (.aload_n 1, 1) := by decide +kernel
theorem dX6_copyFrom_144 : decode cX6_copyFrom 144 = .ok (.getfield 50, 3) := by decide +kernel
theorem dX6_copyFrom_147 : decode cX6_copyFrom 147 = .ok (.invokevirtual 85, 3) := by decide +kernel
theorem dX6_copyFrom_150 : decode cX6_copyFrom 150 = .ok (.aload_n 0, 1) := by decide +kernel
theorem dX6_copyFrom_151 : decode cX6_copyFrom 151 = .ok (.getfield 53, 3) := by decide +kernel
theorem dX6_copyFrom_154 : decode cX6_copyFrom 154 = .ok (.aload_n 1, 1) := by decide +kernel
theorem dX6_copyFrom_155 : decode cX6_copyFrom 155 = .ok (.getfield 53, 3) := by decide +kernel
theorem dX6_copyFrom_158 : decode cX6_copyFrom 158 = .ok (.invokevirtual 85, 3) := by decide +kernel
theorem dX6_copyFrom_161 : decode cX6_copyFrom 161 = .ok (.return_, 1) := by decide +kernel
theorem dX7_init_0 : decode cX7_init 0 = .ok (.aload_n 0, 1) := by decide +kernel
theorem dX7_init_1 : decode cX7_init 1 = .ok (.invokespecial 3, 3) := by decide +kernel
theorem dX7_init_4 : decode cX7_init 4 = .ok (.aload_n 0, 1) := by decide +kernel
theorem dX7_init_5 : decode cX7_init 5 = .ok (.bipush 10, 2) := by decide +kernel
theorem dX7_init_7 : decode cX7_init 7 = .ok (.newarray .int, 2) := by decide +kernel
theorem dX7_init_9 : decode cX7_init 9 = .ok (.putfield 9, 3) := by decide +kernel
theorem dX7_init_12 : decode cX7_init 12 = .ok (.aload_n 0, 1) := by decide +kernel
theorem dX7_init_13 : decode cX7_init 13 = .ok (.bipush 10, 2) := by decide +kernel
theorem dX7_init_15 : decode cX7_init 15 = .ok (.newarray .int, 2) := by decide +kernel
theorem dX7_init_17 : decode cX7_init 17 = .ok (.putfield 15, 3) := by decide +kernel
theorem dX7_init_20 : decode cX7_init 20 = .ok (.aload_n 0, 1) := by decide +kernel
theorem dX7_init_21 : decode cX7_init 21 = .ok (.bipush 10, 2) := by decide +kernel
theorem dX7_init_23 : decode cX7_init 23 = .ok (.newarray .int, 2) := by decide +kernel
theorem dX7_init_25 : decode cX7_init 25 = .ok (.putfield 18, 3) := by decide +kernel
theorem dX7_init_28 : decode cX7_init 28 = .ok (.aload_n 0, 1) := by decide +kernel
theorem dX7_init_29 : decode cX7_init 29 = .ok (.iconst 0, 1) := by decide +kernel
theorem dX7_init_30 : decode cX7_init 30 = .ok (.putfield 21, 3) := by decide +kernel
theorem dX7_init_33 : decode cX7_init 33 = .ok (.return_, 1) := by decide +kernel
theorem dX7_isFull_0 : decode cX7_isFull 0 = .ok (.aload_n 0, 1) := by decide +kernel
theorem dX7_isFull_1 : decode cX7_isFull 1 = .ok (.getfield 21, 3) := by decide +kernel
theorem dX7_isFull_4 : decode cX7_isFull 4 = .ok (.bipush 10, 2) := by decide +kernel
theorem dX7_isFull_6 : decode cX7_isFull 6 = .ok (.if_icmp .lt 7, 3) := by decide +kernel
theorem dX7_isFull_9 : decode cX7_isFull 9 = .ok (.iconst 1, 1) := by decide +kernel
theorem dX7_isFull_10 : decode cX7_isFull 10 = .ok (.goto 4, 3) := by decide +kernel
theorem dX7_isFull_13 : decode cX7_isFull 13 = .ok (.iconst 0, 1) := by decide +kernel
theorem dX7_isFull_14 : decode cX7_isFull 14 = .ok (.ireturn, 1) := by decide +kernel
theorem dX7_add_0 : decode cX7_add 0 = .ok (.aload_n 0, 1) := by decide +kernel
theorem dX7_add_1 : decode cX7_add 1 = .ok (.getfield 21, 3) := by decide +kernel
theorem dX7_add_4 : decode cX7_add 4 = .ok (.bipush 10, 2) := by decide +kernel
theorem dX7_add_6 : decode cX7_add 6 = .ok (.if_icmp .ge 43, 3) := by decide +kernel
theorem dX7_add_9 : decode cX7_add 9 = .ok (.aload_n 0, 1) := by decide +kernel
theorem dX7_add_10 : decode cX7_add 10 = .ok (.getfield 9, 3) := by decide +kernel
theorem dX7_add_13 : decode cX7_add 13 = .ok (.aload_n 0, 1) := by decide +kernel
theorem dX7_add_14 : decode cX7_add 14 = .ok (.getfield 21, 3) := by decide +kernel
theorem dX7_add_17 : decode cX7_add 17 = .ok (.iload_n 1, 1) := by decide +kernel
theorem dX7_add_18 : decode cX7_add 18 = .ok (.iastore, 1) := by decide +kernel
theorem dX7_add_19 : decode cX7_add 19 = .ok (.aload_n 0, 1) := by decide +kernel
theorem dX7_add_20 : decode cX7_add 20 = .ok (.getfield 15, 3) := by decide +kernel
theorem dX7_add_23 : decode cX7_add 23 = .ok (.aload_n 0, 1) := by decide +kernel
theorem dX7_add_24 : decode cX7_add 24 = .ok (.getfield 21, 3) := by decide +kernel
theorem dX7_add_27 : decode cX7_add 27 = .ok (.iload_n 2, 1) := by decide +kernel
theorem dX7_add_28 : decode cX7_add 28 = .ok (.iastore, 1) := by decide +kernel
theorem dX7_add_29 : decode cX7_add 29 = .ok (.aload_n 0, 1) := by decide +kernel
theorem dX7_add_30 : decode cX7_add 30 = .ok (.getfield 18, 3) := by decide +kernel
theorem dX7_add_33 : decode cX7_add 33 = .ok (.aload_n 0, 1) := by decide +kernel
theorem dX7_add_34 : decode cX7_add 34 = .ok (.getfield 21, 3) := by decide +kernel
theorem dX7_add_37 : decode cX7_add 37 = .ok (.iload_n 3, 1) := by decide +kernel
theorem dX7_add_38 : decode cX7_add 38 = .ok (.iastore, 1) := by decide +kernel
theorem dX7_add_39 : decode cX7_add 39 = .ok (.aload_n 0, 1) := by decide +kernel
theorem dX7_add_40 : decode cX7_add 40 = .ok (.dup, 1) := by decide +kernel
theorem dX7_add_41 : decode cX7_add 41 = .ok (.getfield 21, 3) := by decide +kernel
theorem dX7_add_44 : decode cX7_add 44 = .ok (.iconst 1, 1) := by decide +kernel
theorem dX7_add_45 : decode cX7_add 45 = .ok (.iadd, 1) := by decide +kernel
theorem dX7_add_46 : decode cX7_add 46 = .ok (.putfield 21, 3) := by decide +kernel
theorem dX7_add_49 : decode cX7_add 49 = .ok (.return_, 1) := by decide +kernel
theorem dX7_drop_0 : decode cX7_drop 0 = .ok (.aload_n 0, 1) := by decide +kernel
theorem dX7_drop_1 : decode cX7_drop 1 = .ok (.getfield 21, 3) := by decide +kernel
theorem dX7_drop_4 : decode cX7_drop 4 = .ok (.istore_n 1, 1) := by decide +kernel
theorem dX7_drop_5 : decode cX7_drop 5 = .ok (.aload_n 0, 1) := by decide +kernel
theorem dX7_drop_6 : decode cX7_drop 6 = .ok (.iconst 0, 1) := by decide +kernel
theorem dX7_drop_7 : decode cX7_drop 7 = .ok (.putfield 21, 3) := by decide +kernel
theorem dX7_drop_10 : decode cX7_drop 10 = .ok (.iload_n 1, 1) := by decide +kernel
theorem dX7_drop_11 : decode cX7_drop 11 = .ok (.ireturn, 1) := by decide +kernel
theorem dX7_at_0 : decode cX7_at 0 = .ok (.iload_n 1, 1) := by decide +kernel
theorem dX7_at_1 : decode cX7_at 1 = .ok (.ifCond .lt 20, 3) := by decide +kernel
theorem dX7_at_4 : decode cX7_at 4 = .ok (.iload_n 1, 1) := by decide +kernel
theorem dX7_at_5 : decode cX7_at 5 = .ok (.aload_n 0, 1) := by decide +kernel
theorem dX7_at_6 : decode cX7_at 6 = .ok (.getfield 21, 3) := by decide +kernel
theorem dX7_at_9 : decode cX7_at 9 = .ok (.if_icmp .ge 12, 3) := by decide +kernel
theorem dX7_at_12 : decode cX7_at 12 = .ok (.iload_n 2, 1) := by decide +kernel
theorem dX7_at_13 : decode cX7_at 13 = .ok (.ifCond .lt 8, 3) := by decide +kernel
theorem dX7_at_16 : decode cX7_at 16 = .ok (.iload_n 2, 1) := by decide +kernel
theorem dX7_at_17 : decode cX7_at 17 = .ok (.iconst 2, 1) := by decide +kernel
theorem dX7_at_18 : decode cX7_at 18 = .ok (.if_icmp .le 5, 3) := by decide +kernel
theorem dX7_at_21 : decode cX7_at 21 = .ok (.iconst (-1), 1) := by decide +kernel
theorem dX7_at_22 : decode cX7_at 22 = .ok (.ireturn, 1) := by decide +kernel
theorem dX7_at_23 : decode cX7_at 23 = .ok (.iload_n 2, 1) := by decide +kernel
theorem dX7_at_24 : decode cX7_at 24 = .ok (.ifCond .ne 10, 3) := by decide +kernel
theorem dX7_at_27 : decode cX7_at 27 = .ok (.aload_n 0, 1) := by decide +kernel
theorem dX7_at_28 : decode cX7_at 28 = .ok (.getfield 9, 3) := by decide +kernel
theorem dX7_at_31 : decode cX7_at 31 = .ok (.iload_n 1, 1) := by decide +kernel
theorem dX7_at_32 : decode cX7_at 32 = .ok (.iaload, 1) := by decide +kernel
theorem dX7_at_33 : decode cX7_at 33 = .ok (.ireturn, 1) := by decide +kernel
theorem dX7_at_34 : decode cX7_at 34 = .ok (.iload_n 2, 1) := by decide +kernel
theorem dX7_at_35 : decode cX7_at 35 = .ok (.iconst 1, 1) := by decide +kernel
theorem dX7_at_36 : decode cX7_at 36 = .ok (.if_icmp .ne 12, 3) := by decide +kernel
theorem dX7_at_39 : decode cX7_at 39 = .ok (.aload_n 0, 1) := by decide +kernel
theorem dX7_at_40 : decode cX7_at 40 = .ok (.getfield 15, 3) := by decide +kernel
theorem dX7_at_43 : decode cX7_at 43 = .ok (.iload_n 1, 1) := by decide +kernel
theorem dX7_at_44 : decode cX7_at 44 = .ok (.iaload, 1) := by decide +kernel
theorem dX7_at_45 : decode cX7_at 45 = .ok (.goto 9, 3) := by decide +kernel
theorem dX7_at_48 : decode cX7_at 48 = .ok (.aload_n 0, 1) := by decide +kernel
theorem dX7_at_49 : decode cX7_at 49 = .ok (.getfield 18, 3) := by decide +kernel
theorem dX7_at_52 : decode cX7_at 52 = .ok (.iload_n 1, 1) := by decide +kernel
theorem dX7_at_53 : decode cX7_at 53 = .ok (.iaload, 1) := by decide +kernel
theorem dX7_at_54 : decode cX7_at 54 = .ok (.ireturn, 1) := by decide +kernel
theorem dX7_copyFrom_0 : decode cX7_copyFrom 0 = .ok (.aload_n 1, 1) := by decide +kernel
theorem dX7_copyFrom_1 : decode cX7_copyFrom 1 = .ok (.getfield 9, 3) := by decide +kernel
theorem dX7_copyFrom_4 : decode cX7_copyFrom 4 = .ok (.iconst 0, 1) := by decide +kernel
theorem dX7_copyFrom_5 : decode cX7_copyFrom 5 = .ok (.aload_n 0, 1) := by decide +kernel
theorem dX7_copyFrom_6 : decode cX7_copyFrom 6 = .ok (.getfield 9, 3) := by decide +kernel
theorem dX7_copyFrom_9 : decode cX7_copyFrom 9 = .ok (.iconst 0, 1) := by decide +kernel
theorem dX7_copyFrom_10 : decode cX7_copyFrom 10 = .ok (.bipush 10, 2) := by decide +kernel
theorem dX7_copyFrom_12 : decode cX7_copyFrom 12 = .ok (.invokestatic 25, 3) := by decide +kernel
theorem dX7_copyFrom_15 : decode cX7_copyFrom 15 = .ok (.aload_n 1, 1) := by decide +kernel
theorem dX7_copyFrom_16 : decode cX7_copyFrom 16 = .ok (.getfield 15, 3) := by decide +kernel
theorem dX7_copyFrom_19 : decode cX7_copyFrom 19 = .ok (.iconst 0, 1) := by decide +kernel
theorem dX7_copyFrom_20 : decode cX7_copyFrom 20 = .ok (.aload_n 0, 1) := by decide +kernel
theorem dX7_copyFrom_21 : decode cX7_copyFrom 21 = .ok (.getfield 15, 3) := by decide +kernel
theorem dX7_copyFrom_24 : decode cX7_copyFrom 24 = .ok (.iconst 0, 1) := by decide +kernel
theorem dX7_copyFrom_25 : decode cX7_copyFrom 25 = .ok (.bipush 10, 2) := by decide +kernel
theorem dX7_copyFrom_27 : decode cX7_copyFrom 27 = .ok (.invokestatic 25, 3) := by decide +kernel
theorem dX7_copyFrom_30 : decode cX7_copyFrom 30 = .ok (.aload_n 1, 1) := by decide +kernel
theorem dX7_copyFrom_31 : decode cX7_copyFrom 31 = .ok (.getfield 18, 3) := by decide +kernel
theorem dX7_copyFrom_34 : decode cX7_copyFrom 34 = .ok (.iconst 0, 1) := by decide +kernel
theorem dX7_copyFrom_35 : decode cX7_copyFrom 35 = .ok (.aload_n 0, 1) := by decide +kernel
theorem dX7_copyFrom_36 : decode cX7_copyFrom 36 = .ok (.getfield 18, 3) := by decide +kernel
theorem dX7_copyFrom_39 : decode cX7_copyFrom 39 = .ok (.iconst 0, 1) := by decide +kernel
theorem dX7_copyFrom_40 : decode cX7_copyFrom 40 = .ok (.bipush 10, 2) := by decide +kernel
theorem dX7_copyFrom_42 : decode cX7_copyFrom 42 = .ok (.invokestatic 25, 3) := by decide +kernel
theorem dX7_copyFrom_45 : decode cX7_copyFrom 45 = .ok (.aload_n 0, 1) := by decide +kernel
theorem dX7_copyFrom_46 : decode cX7_copyFrom 46 = .ok (.aload_n 1, 1) := by decide +kernel
theorem dX7_copyFrom_47 : decode cX7_copyFrom 47 = .ok (.getfield 21, 3) := by decide +kernel
theorem dX7_copyFrom_50 : decode cX7_copyFrom 50 = .ok (.putfield 21, 3) := by decide +kernel
theorem dX7_copyFrom_53 : decode cX7_copyFrom 53 = .ok (.return_, 1) := by decide +kernel
theorem dX8_init_0 : decode cX8_init 0 = .ok (.aload_n 0, 1) := by decide +kernel
theorem dX8_init_1 : decode cX8_init 1 = .ok (.invokespecial 3, 3) := by decide +kernel
theorem dX8_init_4 : decode cX8_init 4 = .ok (.aload_n 0, 1) := by decide +kernel
theorem dX8_init_5 : decode cX8_init 5 = .ok (.new 9, 3) := by decide +kernel
theorem dX8_init_8 : decode cX8_init 8 = .ok (.dup, 1) := by decide +kernel
theorem dX8_init_9 : decode cX8_init 9 = .ok (.invokespecial 11, 3) := by decide +kernel
theorem dX8_init_12 : decode cX8_init 12 = .ok (.putfield 12, 3) := by decide +kernel
theorem dX8_init_15 : decode cX8_init 15 = .ok (.aload_n 0, 1) := by decide +kernel
theorem dX8_init_16 : decode cX8_init 16 = .ok (.iconst 2, 1) := by decide +kernel
theorem dX8_init_17 : decode cX8_init 17 = .ok (.anewarray 9, 3) := by decide +kernel
theorem dX8_init_20 : decode cX8_init 20 = .ok (.putfield 16, 3) := by decide +kernel
theorem dX8_init_23 : decode cX8_init 23 = .ok (.aload_n 0, 1) := by decide +kernel
theorem dX8_init_24 : decode cX8_init 24 = .ok (.iconst 2, 1) := by decide +kernel
theorem dX8_init_25 : decode cX8_init 25 = .ok (.newarray .boolean, 2) := by decide +kernel
theorem dX8_init_27 : decode cX8_init 27 = .ok (.putfield 20, 3) := by decide +kernel
theorem dX8_init_30 : decode cX8_init 30 = .ok (.aload_n 0, 1) := by decide +kernel
theorem dX8_init_31 : decode cX8_init 31 = .ok (.sipush 400, 3) := by decide +kernel
theorem dX8_init_34 : decode cX8_init 34 = .ok (.newarray .int, 2) := by decide +kernel
theorem dX8_init_36 : decode cX8_init 36 = .ok (.putfield 24, 3) := by decide +kernel
theorem dX8_init_39 : decode cX8_init 39 = .ok (.aload_n 0, 1) := by decide +kernel
theorem dX8_init_40 : decode cX8_init 40 = .ok (.iconst 0, 1) := by decide +kernel
theorem dX8_init_41 : decode cX8_init 41 = .ok (.putfield 28, 3) := by decide +kernel
theorem dX8_init_44 : decode cX8_init 44 = .ok (.aload_n 0, 1) := by decide +kernel
theorem dX8_init_45 : decode cX8_init 45 = .ok (.new 32, 3) := by decide +kernel
theorem dX8_init_48 : decode cX8_init 48 = .ok (.dup, 1) := by decide +kernel
theorem dX8_init_49 : decode cX8_init 49 = .ok (.invokespecial 34, 3) := by decide +kernel
theorem dX8_init_52 : decode cX8_init 52 = .ok (.putfield 35, 3) := by decide +kernel
theorem dX8_init_55 : decode cX8_init 55 = .ok (.aload_n 0, 1) := by decide +kernel
theorem dX8_init_56 : decode cX8_init 56 = .ok (.iconst (-1), 1) := by decide +kernel
theorem dX8_init_57 : decode cX8_init 57 = .ok (.putfield 39, 3) := by decide +kernel
theorem dX8_init_60 : decode cX8_init 60 = .ok (.aload_n 0, 1) := by decide +kernel
theorem dX8_init_61 : decode cX8_init 61 = .ok (.iconst 0, 1) := by decide +kernel
theorem dX8_init_62 : decode cX8_init 62 = .ok (.putfield 42, 3) := by decide +kernel
theorem dX8_init_65 : decode cX8_init 65 = .ok (.aload_n 0, 1) := by decide +kernel
theorem dX8_init_66 : decode cX8_init 66 = .ok (.new 45, 3) := by decide +kernel
theorem dX8_init_69 : decode cX8_init 69 = .ok (.dup, 1) := by decide +kernel
theorem dX8_init_70 : decode cX8_init 70 = .ok (.invokespecial 47, 3) := by decide +kernel
theorem dX8_init_73 : decode cX8_init 73 = .ok (.putfield 48, 3) := by decide +kernel
theorem dX8_init_76 : decode cX8_init 76 = .ok (.aload_n 0, 1) := by decide +kernel
theorem dX8_init_77 : decode cX8_init 77 = .ok (.aconst_null, 1) := by decide +kernel
theorem dX8_init_78 : decode cX8_init 78 = .ok (.putfield 52, 3) := by decide +kernel
theorem dX8_init_81 : decode cX8_init 81 = .ok (.aload_n 0, 1) := by decide +kernel
theorem dX8_init_82 : decode cX8_init 82 = .ok (.aconst_null, 1) := by decide +kernel
theorem dX8_init_83 : decode cX8_init 83 = .ok (.putfield 55, 3) := by decide +kernel
theorem dX8_init_86 : decode cX8_init 86 = .ok (.aload_n 0, 1) := by decide +kernel
theorem dX8_init_87 : decode cX8_init 87 = .ok (.new 59, 3) := by decide +kernel
theorem dX8_init_90 : decode cX8_init 90 = .ok (.dup, 1) := by decide +kernel
theorem dX8_init_91 : decode cX8_init 91 = .ok (.invokespecial 61, 3) := by decide +kernel
theorem dX8_init_94 : decode cX8_init 94 = .ok (.putfield 62, 3) := by decide +kernel
theorem dX8_init_97 : decode cX8_init 97 = .ok (.aload_n 0, 1) := by decide +kernel
theorem dX8_init_98 : decode cX8_init 98 = .ok (.new 66, 3) := by decide +kernel
theorem dX8_init_101 : decode cX8_init 101 = .ok (.dup, 1) := by decide +kernel
theorem dX8_init_102 : decode cX8_init 102 = .ok (.invokespecial 68, 3) := by decide +kernel
theorem dX8_init_105 : decode cX8_init 105 = .ok (.putfield 69, 3) := by decide +kernel
theorem dX8_init_108 : decode cX8_init 108 = .ok (.aload_n 0, 1) := by decide +kernel
theorem dX8_init_109 : decode cX8_init 109 = .ok (.new 66, 3) := by decide +kernel
theorem dX8_init_112 : decode cX8_init 112 = .ok (.dup, 1) := by decide +kernel
theorem dX8_init_113 : decode cX8_init 113 = .ok (.invokespecial 68, 3) := by decide +kernel
theorem dX8_init_116 : decode cX8_init 116 = .ok (.putfield 73, 3) := by decide +kernel
theorem dX8_init_119 : decode cX8_init 119 = .ok (.aload_n 0, 1) := by decide +kernel
theorem dX8_init_120 : decode cX8_init 120 = .ok (.bipush 40, 2) := by decide +kernel
theorem dX8_init_122 : decode cX8_init 122 = .ok (.newarray .int, 2) := by decide +kernel
theorem dX8_init_124 : decode cX8_init 124 = .ok (.putfield 76, 3) := by decide +kernel
theorem dX8_init_127 : decode cX8_init 127 = .ok (.aload_n 0, 1) := by decide +kernel
theorem dX8_init_128 : decode cX8_init 128 = .ok (.bipush 7, 2) := by decide +kernel
theorem dX8_init_130 : decode cX8_init 130 = .ok (.newarray .int, 2) := by decide +kernel
theorem dX8_init_132 : decode cX8_init 132 = .ok (.putfield 79, 3) := by decide +kernel
theorem dX8_init_135 : decode cX8_init 135 = .ok (.aload_n 0, 1) := by decide +kernel
theorem dX8_init_136 : decode cX8_init 136 = .ok (.iconst 0, 1) := by decide +kernel
theorem dX8_init_137 : decode cX8_init 137 = .ok (.putfield 82, 3) := by decide +kernel
theorem dX8_init_140 : decode cX8_init 140 = .ok (.iconst 0, 1) := by decide +kernel
theorem dX8_init_141 : decode cX8_init 141 = .ok (.istore_n 1, 1) := by decide +kernel
theorem dX8_init_142 : decode cX8_init 142 = .ok (.iload_n 1, 1) := by decide +kernel
theorem dX8_init_143 : decode cX8_init 143 = .ok (.iconst 2, 1) := by decide +kernel
theorem dX8_init_144 : decode cX8_init 144 = .ok (.if_icmp .ge 22, 3) := by decide +kernel
theorem dX8_init_147 : decode cX8_init 147 = .ok (.aload_n 0, 1) := by decide +kernel
theorem dX8_init_148 : decode cX8_init 148 = .ok (.getfield 16, 3) := by decide +kernel
theorem dX8_init_151 : decode cX8_init 151 = .ok (.iload_n 1, 1) := by decide +kernel
theorem dX8_init_152 : decode cX8_init 152 = .ok (.new 9, 3) := by decide +kernel
theorem dX8_init_155 : decode cX8_init 155 = .ok (.dup, 1) := by decide +kernel
theorem dX8_init_156 : decode cX8_init 156 = .ok (.invokespecial 11, 3) := by decide +kernel
theorem dX8_init_159 : decode cX8_init 159 = .ok (.aastore, 1) := by decide +kernel
theorem dX8_init_160 : decode cX8_init 160 = .ok (.iinc 1 1, 3) := by decide +kernel
theorem dX8_init_163 : decode cX8_init 163 = .ok (.goto (-21), 3) := by decide +kernel
theorem dX8_init_166 : decode cX8_init 166 = .ok (.return_, 1) := by decide +kernel
theorem dX8_tale_0 : decode cX8_tale 0 = .ok (.iload_n 1, 1) := by decide +kernel
theorem dX8_tale_1 : decode cX8_tale 1 = .ok (.iload_n 2, 1) := by decide +kernel
theorem dX8_tale_2 : decode cX8_tale 2 = .ok (.iload_n 3, 1) := by decide +kernel
theorem dX8_tale_3 : decode cX8_tale 3 = .ok (.iload 4, 2) := by decide +kernel
theorem dX8_tale_5 : decode cX8_tale 5 = .ok (.invokestatic 85, 3) := by decide +kernel
theorem dX8_tale_8 : decode cX8_tale 8 = .ok (.ifCond .ne 9, 3) := by decide +kernel
theorem dX8_tale_11 : decode cX8_tale 11 = .ok (.aload_n 0, 1) := by decide +kernel
theorem dX8_tale_12 : decode cX8_tale 12 = .ok (.iconst (-1), 1) := by decide +kernel
theorem dX8_tale_13 : decode cX8_tale 13 = .ok (.invokevirtual 89, 3) := by decide +kernel
theorem dX8_tale_16 : decode cX8_tale 16 = .ok (.ireturn, 1) := by decide +kernel
theorem dX8_tale_17 : decode cX8_tale 17 = .ok (.aload_n 0, 1) := by decide +kernel
theorem dX8_tale_18 : decode cX8_tale 18 = .ok (.getfield 12, 3) := by decide +kernel
theorem dX8_tale_21 : decode cX8_tale 21 = .ok (.getfield 93, 3) := by decide +kernel
theorem dX8_tale_24 : decode cX8_tale 24 = .ok (.bipush 10, 2) := by decide +kernel
theorem dX8_tale_26 : decode cX8_tale 26 = .ok (.if_icmp .lt 10, 3) := by decide +kernel
theorem dX8_tale_29 : decode cX8_tale 29 = .ok (.aload_n 0, 1) := by decide +kernel
theorem dX8_tale_30 : decode cX8_tale 30 = .ok (.bipush (-5), 2) := by decide +kernel
theorem dX8_tale_32 : decode cX8_tale 32 = .ok (.invokevirtual 89, 3) := by decide +kernel
theorem dX8_tale_35 : decode cX8_tale 35 = .ok (.ireturn, 1) := by decide +kernel
theorem dX8_tale_36 : decode cX8_tale 36 = .ok (.aload_n 0, 1) := by decide +kernel
theorem dX8_tale_37 : decode cX8_tale 37 = .ok (.getfield 12, 3) := by decide +kernel
theorem dX8_tale_40 : decode cX8_tale 40 = .ok (.iload_n 1, 1) := by decide +kernel
theorem dX8_tale_41 : decode cX8_tale 41 = .ok (.iload_n 2, 1) := by decide +kernel
theorem dX8_tale_42 : decode cX8_tale 42 = .ok (.iload_n 3, 1) := by decide +kernel
theorem dX8_tale_43 : decode cX8_tale 43 = .ok (.iload 4, 2) := by decide +kernel
theorem dX8_tale_45 : decode cX8_tale 45 = .ok (.invokevirtual 96, 3) := by decide +kernel
theorem dX8_tale_48 : decode cX8_tale 48 = .ok (.aload_n 0, 1) := by decide +kernel
theorem dX8_tale_49 : decode cX8_tale 49 = .ok (.getfield 48, 3) := by decide +kernel
theorem dX8_tale_52 : decode cX8_tale 52 = .ok (.invokevirtual 100, 3) := by decide +kernel
theorem dX8_tale_55 : decode cX8_tale 55 = .ok (.aload_n 0, 1) := by decide +kernel
theorem dX8_tale_56 : decode cX8_tale 56 = .ok (.aload_n 0, 1) := by decide +kernel
theorem dX8_tale_57 : decode cX8_tale 57 = .ok (.getfield 12, 3) := by decide +kernel
theorem dX8_tale_60 : decode cX8_tale 60 = .ok (.getfield 93, 3) := by decide +kernel
theorem dX8_tale_63 : decode cX8_tale 63 = .ok (.iconst 1, 1) := by decide +kernel
theorem dX8_tale_64 : decode cX8_tale 64 = .ok (.isub, 1) := by decide +kernel
theorem dX8_tale_65 : decode cX8_tale 65 = .ok (.invokevirtual 103, 3) := by decide +kernel
theorem dX8_tale_68 : decode cX8_tale 68 = .ok (.ireturn, 1) := by decide +kernel
theorem dX8_put_0 : decode cX8_put 0 = .ok (.iload_n 2, 1) := by decide +kernel
theorem dX8_put_1 : decode cX8_put 1 = .ok (.iload_n 3, 1) := by decide +kernel
theorem dX8_put_2 : decode cX8_put 2 = .ok (.invokestatic 106, 3) := by decide +kernel
theorem dX8_put_5 : decode cX8_put 5 = .ok (.ifCond .ne 9, 3) := by decide +kernel
theorem dX8_put_8 : decode cX8_put 8 = .ok (.aload_n 0, 1) := by decide +kernel
theorem dX8_put_9 : decode cX8_put 9 = .ok (.iconst (-1), 1) := by decide +kernel
theorem dX8_put_10 : decode cX8_put 10 = .ok (.invokevirtual 89, 3) := by decide +kernel
theorem dX8_put_13 : decode cX8_put 13 = .ok (.ireturn, 1) := by decide +kernel
theorem dX8_put_14 : decode cX8_put 14 = .ok (.aload_n 0, 1) := by decide +kernel
theorem dX8_put_15 : decode cX8_put 15 = .ok (.getfield 12, 3) := by decide +kernel
theorem dX8_put_18 : decode cX8_put 18 = .ok (.iload_n 1, 1) := by decide +kernel
theorem dX8_put_19 : decode cX8_put 19 = .ok (.invokevirtual 110, 3) := by decide +kernel
theorem dX8_put_22 : decode cX8_put 22 = .ok (.ifCond .ne 10, 3) := by decide +kernel
theorem dX8_put_25 : decode cX8_put 25 = .ok (.aload_n 0, 1) := by decide +kernel
theorem dX8_put_26 : decode cX8_put 26 = .ok (.bipush (-2), 2) := by decide +kernel
theorem dX8_put_28 : decode cX8_put 28 = .ok (.invokevirtual 89, 3) := by decide +kernel
theorem dX8_put_31 : decode cX8_put 31 = .ok (.ireturn, 1) := by decide +kernel
theorem dX8_put_32 : decode cX8_put 32 = .ok (.iload_n 2, 1) := by decide +kernel
theorem dX8_put_33 : decode cX8_put 33 = .ok (.ifCond .ne 16, 3) := by decide +kernel
theorem dX8_put_36 : decode cX8_put 36 = .ok (.iload_n 3, 1) := by decide +kernel
theorem dX8_put_37 : decode cX8_put 37 = .ok (.aload_n 0, 1) := by decide +kernel
theorem dX8_put_38 : decode cX8_put 38 = .ok (.getfield 12, 3) := by decide +kernel
theorem dX8_put_41 : decode cX8_put 41 = .ok (.getfield 114, 3) := by decide +kernel
theorem dX8_put_44 : decode cX8_put 44 = .ok (.iload_n 1, 1) := by decide +kernel
theorem dX8_put_45 : decode cX8_put 45 = .ok (.iaload, 1) := by decide +kernel
theorem dX8_put_46 : decode cX8_put 46 = .ok (.if_icmp .gt 21, 3) := by decide +kernel
theorem dX8_put_49 : decode cX8_put 49 = .ok (.iload_n 2, 1) := by decide +kernel
theorem dX8_put_50 : decode cX8_put 50 = .ok (.iconst 1, 1) := by decide +kernel
theorem dX8_put_51 : decode cX8_put 51 = .ok (.if_icmp .ne 22, 3) := by decide +kernel
theorem dX8_put_54 : decode cX8_put 54 = .ok (.iload_n 3, 1) := by decide +kernel
theorem dX8_put_55 : decode cX8_put 55 = .ok (.aload_n 0, 1) := by decide +kernel
theorem dX8_put_56 : decode cX8_put 56 = .ok (.getfield 12, 3) := by decide +kernel
theorem dX8_put_59 : decode cX8_put 59 = .ok (.getfield 117, 3) := by decide +kernel
theorem dX8_put_62 : decode cX8_put 62 = .ok (.iload_n 1, 1) := by decide +kernel
theorem dX8_put_63 : decode cX8_put 63 = .ok (.iaload, 1) := by decide +kernel
theorem dX8_put_64 : decode cX8_put 64 = .ok (.if_icmp .ge 9, 3) := by decide +kernel
theorem dX8_put_67 : decode cX8_put 67 = .ok (.aload_n 0, 1) := by decide +kernel
theorem dX8_put_68 : decode cX8_put 68 = .ok (.iconst (-1), 1) := by decide +kernel
theorem dX8_put_69 : decode cX8_put 69 = .ok (.invokevirtual 89, 3) := by decide +kernel
theorem dX8_put_72 : decode cX8_put 72 = .ok (.ireturn, 1) := by decide +kernel
theorem dX8_put_73 : decode cX8_put 73 = .ok (.aload_n 0, 1) := by decide +kernel
theorem dX8_put_74 : decode cX8_put 74 = .ok (.getfield 12, 3) := by decide +kernel
theorem dX8_put_77 : decode cX8_put 77 = .ok (.iload_n 2, 1) := by decide +kernel
theorem dX8_put_78 : decode cX8_put 78 = .ok (.invokevirtual 120, 3) := by decide +kernel
theorem dX8_put_81 : decode cX8_put 81 = .ok (.astore 4, 2) := by decide +kernel
theorem dX8_put_83 : decode cX8_put 83 = .ok (.aload 4, 2) := by decide +kernel
theorem dX8_put_85 : decode cX8_put 85 = .ok (.iload_n 1, 1) := by decide +kernel
theorem dX8_put_86 : decode cX8_put 86 = .ok (.iaload, 1) := by decide +kernel
theorem dX8_put_87 : decode cX8_put 87 = .ok (.istore 5, 2) := by decide +kernel
theorem dX8_put_89 : decode cX8_put 89 = .ok (.aload 4, 2) := by decide +kernel
theorem dX8_put_91 : decode cX8_put 91 = .ok (.iload_n 1, 1) := by decide +kernel
theorem dX8_put_92 : decode cX8_put 92 = .ok (.iload_n 3, 1) := by decide +kernel
theorem dX8_put_93 : decode cX8_put 93 = .ok (.iastore, 1) := by decide +kernel
theorem dX8_put_94 : decode cX8_put 94 = .ok (.aload_n 0, 1) := by decide +kernel
theorem dX8_put_95 : decode cX8_put 95 = .ok (.getfield 48, 3) := by decide +kernel
theorem dX8_put_98 : decode cX8_put 98 = .ok (.invokevirtual 100, 3) := by decide +kernel
theorem dX8_put_101 : decode cX8_put 101 = .ok (.aload_n 0, 1) := by decide +kernel
theorem dX8_put_102 : decode cX8_put 102 = .ok (.iload 5, 2) := by decide +kernel
theorem dX8_put_104 : decode cX8_put 104 = .ok (.invokevirtual 103, 3) := by decide +kernel
theorem dX8_put_107 : decode cX8_put 107 = .ok (.ireturn, 1) := by decide +kernel
theorem dX8_of_0 : decode cX8_of 0 = .ok (.aload_n 0, 1) := by decide +kernel
theorem dX8_of_1 : decode cX8_of 1 = .ok (.getfield 12, 3) := by decide +kernel
theorem dX8_of_4 : decode cX8_of 4 = .ok (.iload_n 1, 1) := by decide +kernel
theorem dX8_of_5 : decode cX8_of 5 = .ok (.invokevirtual 110, 3) := by decide +kernel
theorem dX8_of_8 : decode cX8_of 8 = .ok (.ifCond .eq 12, 3) := by decide +kernel
theorem dX8_of_11 : decode cX8_of 11 = .ok (.iload_n 2, 1) := by decide +kernel
theorem dX8_of_12 : decode cX8_of 12 = .ok (.ifCond .lt 8, 3) := by decide +kernel
theorem dX8_of_15 : decode cX8_of 15 = .ok (.iload_n 2, 1) := by decide +kernel
theorem dX8_of_16 : decode cX8_of 16 = .ok (.iconst 5, 1) := by decide +kernel
theorem dX8_of_17 : decode cX8_of 17 = .ok (.if_icmp .le 5, 3) := by decide +kernel
theorem dX8_of_20 : decode cX8_of 20 = .ok (.iconst (-1), 1) := by decide +kernel
theorem dX8_of_21 : decode cX8_of 21 = .ok (.ireturn, 1) := by decide +kernel
theorem dX8_of_22 : decode cX8_of 22 = .ok (.iload_n 2, 1) := by decide +kernel
theorem dX8_of_23 : decode cX8_of 23 = .ok (.iconst 4, 1) := by decide +kernel
theorem dX8_of_24 : decode cX8_of 24 = .ok (.if_icmp .ge 14, 3) := by decide +kernel
theorem dX8_of_27 : decode cX8_of 27 = .ok (.aload_n 0, 1) := by decide +kernel
theorem dX8_of_28 : decode cX8_of 28 = .ok (.getfield 12, 3) := by decide +kernel
theorem dX8_of_31 : decode cX8_of 31 = .ok (.iload_n 2, 1) := by decide +kernel
theorem dX8_of_32 : decode cX8_of 32 = .ok (.invokevirtual 120, 3) := by decide +kernel
theorem dX8_of_35 : decode cX8_of 35 = .ok (.iload_n 1, 1) := by decide +kernel
theorem dX8_of_36 : decode cX8_of 36 = .ok (.iaload, 1) := by decide +kernel
theorem dX8_of_37 : decode cX8_of 37 = .ok (.ireturn, 1) := by decide +kernel
theorem dX8_of_38 : decode cX8_of 38 = .ok (.aload_n 0, 1) := by decide +kernel
theorem dX8_of_39 : decode cX8_of 39 = .ok (.getfield 48, 3) := by decide +kernel
theorem dX8_of_42 : decode cX8_of 42 = .ok (.aload_n 0, 1) := by decide +kernel
theorem dX8_of_43 : decode cX8_of 43 = .ok (.getfield 12, 3) := by decide +kernel
theorem dX8_of_46 : decode cX8_of 46 = .ok (.invokevirtual 124, 3) := by decide +kernel
theorem dX8_of_49 : decode cX8_of 49 = .ok (.iload_n 2, 1) := by decide +kernel
theorem dX8_of_50 : decode cX8_of 50 = .ok (.iconst 4, 1) := by decide +kernel
theorem dX8_of_51 : decode cX8_of 51 = .ok (.if_icmp .ne 15, 3) := by decide +kernel
theorem dX8_of_54 : decode cX8_of 54 = .ok (.aload_n 0, 1) := by decide +kernel
theorem dX8_of_55 : decode cX8_of 55 = .ok (.getfield 48, 3) := by decide +kernel
theorem dX8_of_58 : decode cX8_of 58 = .ok (.getfield 128, 3) := by decide +kernel
theorem dX8_of_61 : decode cX8_of 61 = .ok (.iload_n 1, 1) := by decide +kernel
theorem dX8_of_62 : decode cX8_of 62 = .ok (.iaload, 1) := by decide +kernel
theorem dX8_of_63 : decode cX8_of 63 = .ok (.goto 12, 3) := by decide +kernel
theorem dX8_of_66 : decode cX8_of 66 = .ok (.aload_n 0, 1) := by decide +kernel
theorem dX8_of_67 : decode cX8_of 67 = .ok (.getfield 48, 3) := by decide +kernel
theorem dX8_of_70 : decode cX8_of 70 = .ok (.getfield 131, 3) := by decide +kernel
theorem dX8_of_73 : decode cX8_of 73 = .ok (.iload_n 1, 1) := by decide +kernel
theorem dX8_of_74 : decode cX8_of 74 = .ok (.iaload, 1) := by decide +kernel
theorem dX8_of_75 : decode cX8_of 75 = .ok (.ireturn, 1) := by decide +kernel
theorem dX8_can_0 : decode cX8_can 0 = .ok (.aload_n 0, 1) := by decide +kernel
theorem dX8_can_1 : decode cX8_can 1 = .ok (.getfield 12, 3) := by decide +kernel
theorem dX8_can_4 : decode cX8_can 4 = .ok (.iload_n 1, 1) := by decide +kernel
theorem dX8_can_5 : decode cX8_can 5 = .ok (.invokevirtual 110, 3) := by decide +kernel
theorem dX8_can_8 : decode cX8_can 8 = .ok (.ifCond .eq 14, 3) := by decide +kernel
theorem dX8_can_11 : decode cX8_can 11 = .ok (.aload_n 0, 1) := by decide +kernel
theorem dX8_can_12 : decode cX8_can 12 = .ok (.getfield 12, 3) := by decide +kernel
theorem dX8_can_15 : decode cX8_can 15 = .ok (.iload_n 2, 1) := by decide +kernel
theorem dX8_can_16 : decode cX8_can 16 = .ok (.invokevirtual 134, 3) := by decide +kernel
theorem dX8_can_19 : decode cX8_can 19 = .ok (.ifCond .ne 5, 3) := by decide +kernel
theorem dX8_can_22 : decode cX8_can 22 = .ok (.iconst (-1), 1) := by decide +kernel
theorem dX8_can_23 : decode cX8_can 23 = .ok (.ireturn, 1) := by decide +kernel
theorem dX8_can_24 : decode cX8_can 24 = .ok (.aload_n 0, 1) := by decide +kernel
theorem dX8_can_25 : decode cX8_can 25 = .ok (.getfield 48, 3) := by decide +kernel
theorem dX8_can_28 : decode cX8_can 28 = .ok (.aload_n 0, 1) := by decide +kernel
theorem dX8_can_29 : decode cX8_can 29 = .ok (.getfield 12, 3) := by decide +kernel
theorem dX8_can_32 : decode cX8_can 32 = .ok (.invokevirtual 124, 3) := by decide +kernel
theorem dX8_can_35 : decode cX8_can 35 = .ok (.aload_n 0, 1) := by decide +kernel
theorem dX8_can_36 : decode cX8_can 36 = .ok (.getfield 48, 3) := by decide +kernel
theorem dX8_can_39 : decode cX8_can 39 = .ok (.getfield 137, 3) := by decide +kernel
theorem dX8_can_42 : decode cX8_can 42 = .ok (.iload_n 1, 1) := by decide +kernel
theorem dX8_can_43 : decode cX8_can 43 = .ok (.iaload, 1) := by decide +kernel
theorem dX8_can_44 : decode cX8_can 44 = .ok (.iload_n 2, 1) := by decide +kernel
theorem dX8_can_45 : decode cX8_can 45 = .ok (.ishr, 1) := by decide +kernel
theorem dX8_can_46 : decode cX8_can 46 = .ok (.iconst 1, 1) := by decide +kernel
theorem dX8_can_47 : decode cX8_can 47 = .ok (.iand, 1) := by decide +kernel
theorem dX8_can_48 : decode cX8_can 48 = .ok (.ireturn, 1) := by decide +kernel
theorem dX8_terms_0 : decode cX8_terms 0 = .ok (.iload_n 1, 1) := by decide +kernel
theorem dX8_terms_1 : decode cX8_terms 1 = .ok (.ifCond .ne 13, 3) := by decide +kernel
theorem dX8_terms_4 : decode cX8_terms 4 = .ok (.iload_n 2, 1) := by decide +kernel
theorem dX8_terms_5 : decode cX8_terms 5 = .ok (.iconst 1, 1) := by decide +kernel
theorem dX8_terms_6 : decode cX8_terms 6 = .ok (.if_icmp .lt 8, 3) := by decide +kernel
theorem dX8_terms_9 : decode cX8_terms 9 = .ok (.iload_n 2, 1) := by decide +kernel
theorem dX8_terms_10 : decode cX8_terms 10 = .ok (.iconst 4, 1) := by decide +kernel
theorem dX8_terms_11 : decode cX8_terms 11 = .ok (.if_icmp .le 32, 3) := by decide +kernel
theorem dX8_terms_14 : decode cX8_terms 14 = .ok (.iload_n 1, 1) := by decide +kernel
theorem dX8_terms_15 : decode cX8_terms 15 = .ok (.iconst 1, 1) := by decide +kernel
theorem dX8_terms_16 : decode cX8_terms 16 = .ok (.if_icmp .ne 12, 3) := by decide +kernel
theorem dX8_terms_19 : decode cX8_terms 19 = .ok (.iload_n 2, 1) := by decide +kernel
theorem dX8_terms_20 : decode cX8_terms 20 = .ok (.ifCond .lt 8, 3) := by decide +kernel
theorem dX8_terms_23 : decode cX8_terms 23 = .ok (.iload_n 2, 1) := by decide +kernel
theorem dX8_terms_24 : decode cX8_terms 24 = .ok (.iconst 1, 1) := by decide +kernel
theorem dX8_terms_25 : decode cX8_terms 25 = .ok (.if_icmp .le 18, 3) := by decide +kernel
theorem dX8_terms_28 : decode cX8_terms 28 = .ok (.iload_n 1, 1) := by decide +kernel
theorem dX8_terms_29 : decode cX8_terms 29 = .ok (.iconst 2, 1) := by decide +kernel
theorem dX8_terms_30 : decode cX8_terms 30 = .ok (.if_icmp .ne 17, 3) := by decide +kernel
theorem dX8_terms_33 : decode cX8_terms 33 = .ok (.iload_n 2, 1) := by decide +kernel
theorem dX8_terms_34 : decode cX8_terms 34 = .ok (.ifCond .lt 13, 3) := by decide +kernel
theorem dX8_terms_37 : decode cX8_terms 37 = .ok (.iload_n 2, 1) := by decide +kernel
theorem dX8_terms_38 : decode cX8_terms 38 = .ok (.bipush 9, 2) := by decide +kernel
theorem dX8_terms_40 : decode cX8_terms 40 = .ok (.if_icmp .gt 7, 3) := by decide +kernel
theorem dX8_terms_43 : decode cX8_terms 43 = .ok (.iconst 1, 1) := by decide +kernel
theorem dX8_terms_44 : decode cX8_terms 44 = .ok (.goto 4, 3) := by decide +kernel
theorem dX8_terms_47 : decode cX8_terms 47 = .ok (.iconst 0, 1) := by decide +kernel
theorem dX8_terms_48 : decode cX8_terms 48 = .ok (.istore_n 3, 1) := by decide +kernel
theorem dX8_terms_49 : decode cX8_terms 49 = .ok (.iload_n 3, 1) := by decide +kernel
theorem dX8_terms_50 : decode cX8_terms 50 = .ok (.ifCond .ne 9, 3) := by decide +kernel
theorem dX8_terms_53 : decode cX8_terms 53 = .ok (.aload_n 0, 1) := by decide +kernel
theorem dX8_terms_54 : decode cX8_terms 54 = .ok (.iconst (-1), 1) := by decide +kernel
theorem dX8_terms_55 : decode cX8_terms 55 = .ok (.invokevirtual 89, 3) := by decide +kernel
theorem dX8_terms_58 : decode cX8_terms 58 = .ok (.ireturn, 1) := by decide +kernel
theorem dX8_terms_59 : decode cX8_terms 59 = .ok (.aload_n 0, 1) := by decide +kernel
theorem dX8_terms_60 : decode cX8_terms 60 = .ok (.getfield 12, 3) := by decide +kernel
theorem dX8_terms_63 : decode cX8_terms 63 = .ok (.getfield 140, 3) := by decide +kernel
theorem dX8_terms_66 : decode cX8_terms 66 = .ok (.iload_n 1, 1) := by decide +kernel
theorem dX8_terms_67 : decode cX8_terms 67 = .ok (.iaload, 1) := by decide +kernel
theorem dX8_terms_68 : decode cX8_terms 68 = .ok (.istore 4, 2) := by decide +kernel
theorem dX8_terms_70 : decode cX8_terms 70 = .ok (.aload_n 0, 1) := by decide +kernel
theorem dX8_terms_71 : decode cX8_terms 71 = .ok (.getfield 12, 3) := by decide +kernel
theorem dX8_terms_74 : decode cX8_terms 74 = .ok (.getfield 140, 3) := by decide +kernel
theorem dX8_terms_77 : decode cX8_terms 77 = .ok (.iload_n 1, 1) := by decide +kernel
theorem dX8_terms_78 : decode cX8_terms 78 = .ok (.iload_n 2, 1) := by decide +kernel
theorem dX8_terms_79 : decode cX8_terms 79 = .ok (.iastore, 1) := by decide +kernel
theorem dX8_terms_80 : decode cX8_terms 80 = .ok (.aload_n 0, 1) := by decide +kernel
theorem dX8_terms_81 : decode cX8_terms 81 = .ok (.getfield 48, 3) := by decide +kernel
theorem dX8_terms_84 : decode cX8_terms 84 = .ok (.invokevirtual 100, 3) := by decide +kernel
theorem dX8_terms_87 : decode cX8_terms 87 = .ok (.aload_n 0, 1) := by decide +kernel
theorem dX8_terms_88 : decode cX8_terms 88 = .ok (.iload 4, 2) := by decide +kernel
theorem dX8_terms_90 : decode cX8_terms 90 = .ok (.invokevirtual 103, 3) := by decide +kernel
theorem dX8_terms_93 : decode cX8_terms 93 = .ok (.ireturn, 1) := by decide +kernel
theorem dX8_feed_0 : decode cX8_feed 0 = .ok (.aload_n 0, 1) := by decide +kernel
theorem dX8_feed_1 : decode cX8_feed 1 = .ok (.getfield 28, 3) := by decide +kernel
theorem dX8_feed_4 : decode cX8_feed 4 = .ok (.bipush 20, 2) := by decide +kernel
theorem dX8_feed_6 : decode cX8_feed 6 = .ok (.iadd, 1) := by decide +kernel
theorem dX8_feed_7 : decode cX8_feed 7 = .ok (.sipush 400, 3) := by decide +kernel
theorem dX8_feed_10 : decode cX8_feed 10 = .ok (.if_icmp .le 5, 3) := by decide +kernel
theorem dX8_feed_13 : decode cX8_feed 13 = .ok (.iconst (-1), 1) := by decide +kernel
theorem dX8_feed_14 : decode cX8_feed 14 = .ok (.ireturn, 1) := by decide +kernel
theorem dX8_feed_15 : decode cX8_feed 15 = .ok (.aload_n 0, 1) := by decide +kernel
theorem dX8_feed_16 : decode cX8_feed 16 = .ok (.iload_n 1, 1) := by decide +kernel
theorem dX8_feed_17 : decode cX8_feed 17 = .ok (.invokevirtual 143, 3) := by decide +kernel
theorem dX8_feed_20 : decode cX8_feed 20 = .ok (.aload_n 0, 1) := by decide +kernel
theorem dX8_feed_21 : decode cX8_feed 21 = .ok (.iload_n 2, 1) := by decide +kernel
theorem dX8_feed_22 : decode cX8_feed 22 = .ok (.invokevirtual 143, 3) := by decide +kernel
theorem dX8_feed_25 : decode cX8_feed 25 = .ok (.aload_n 0, 1) := by decide +kernel
theorem dX8_feed_26 : decode cX8_feed 26 = .ok (.iload_n 3, 1) := by decide +kernel
theorem dX8_feed_27 : decode cX8_feed 27 = .ok (.invokevirtual 143, 3) := by decide +kernel
theorem dX8_feed_30 : decode cX8_feed 30 = .ok (.aload_n 0, 1) := by decide +kernel
theorem dX8_feed_31 : decode cX8_feed 31 = .ok (.iload 4, 2) := by decide +kernel
theorem dX8_feed_33 : decode cX8_feed 33 = .ok (.invokevirtual 143, 3) := by decide +kernel
theorem dX8_feed_36 : decode cX8_feed 36 = .ok (.aload_n 0, 1) := by decide +kernel
theorem dX8_feed_37 : decode cX8_feed 37 = .ok (.iload 5, 2) := by decide +kernel
theorem dX8_feed_39 : decode cX8_feed 39 = .ok (.invokevirtual 143, 3) := by decide +kernel
theorem dX8_feed_42 : decode cX8_feed 42 = .ok (.aload_n 0, 1) := by decide +kernel
theorem dX8_feed_43 : decode cX8_feed 43 = .ok (.getfield 28, 3) := by decide +kernel
theorem dX8_feed_46 : decode cX8_feed 46 = .ok (.ireturn, 1) := by decide +kernel
theorem dX8_end_0 : decode cX8_end 0 = .ok (.iload_n 1, 1) := by decide +kernel
theorem dX8_end_1 : decode cX8_end 1 = .ok (.ifCond .lt 11, 3) := by decide +kernel
theorem dX8_end_4 : decode cX8_end 4 = .ok (.iload_n 1, 1) := by decide +kernel
theorem dX8_end_5 : decode cX8_end 5 = .ok (.aload_n 0, 1) := by decide +kernel
theorem dX8_end_6 : decode cX8_end 6 = .ok (.getfield 28, 3) := by decide +kernel
theorem dX8_end_9 : decode cX8_end 9 = .ok (.if_icmp .le 5, 3) := by decide +kernel
theorem dX8_end_12 : decode cX8_end 12 = .ok (.iconst (-1), 1) := by decide +kernel
theorem dX8_end_13 : decode cX8_end 13 = .ok (.ireturn, 1) := by decide +kernel
theorem dX8_end_14 : decode cX8_end 14 = .ok (.aload_n 0, 1) := by decide +kernel
theorem dX8_end_15 : decode cX8_end 15 = .ok (.iload_n 1, 1) := by decide +kernel
theorem dX8_end_16 : decode cX8_end 16 = .ok (.putfield 28, 3) := by decide +kernel
theorem dX8_end_19 : decode cX8_end 19 = .ok (.iload_n 1, 1) := by decide +kernel
theorem dX8_end_20 : decode cX8_end 20 = .ok (.ireturn, 1) := by decide +kernel
theorem dX8_row_0 : decode cX8_row 0 = .ok (.aload_n 0, 1) := by decide +kernel
theorem dX8_row_1 : decode cX8_row 1 = .ok (.getfield 28, 3) := by decide +kernel
theorem dX8_row_4 : decode cX8_row 4 = .ok (.ifCond .ne 10, 3) := by decide +kernel
theorem dX8_row_7 : decode cX8_row 7 = .ok (.aload_n 0, 1) := by decide +kernel
theorem dX8_row_8 : decode cX8_row 8 = .ok (.bipush (-6), 2) := by decide +kernel
theorem dX8_row_10 : decode cX8_row 10 = .ok (.invokevirtual 89, 3) := by decide +kernel
theorem dX8_row_13 : decode cX8_row 13 = .ok (.ireturn, 1) := by decide +kernel
theorem dX8_row_14 : decode cX8_row 14 = .ok (.iconst 0, 1) := by decide +kernel
theorem dX8_row_15 : decode cX8_row 15 = .ok (.istore_n 1, 1) := by decide +kernel
theorem dX8_row_16 : decode cX8_row 16 = .ok (.iconst 0, 1) := by decide +kernel
theorem dX8_row_17 : decode cX8_row 17 = .ok (.istore_n 2, 1) := by decide +kernel
theorem dX8_row_18 : decode cX8_row 18 = .ok (.iconst 0, 1) := by decide +kernel
theorem dX8_row_19 : decode cX8_row 19 = .ok (.istore_n 3, 1) := by decide +kernel
theorem dX8_row_20 : decode cX8_row 20 = .ok (.iload_n 3, 1) := by decide +kernel
theorem dX8_row_21 : decode cX8_row 21 = .ok (.aload_n 0, 1) := by decide +kernel
theorem dX8_row_22 : decode cX8_row 22 = .ok (.getfield 28, 3) := by decide +kernel
theorem dX8_row_25 : decode cX8_row 25 = .ok (.if_icmp .ge 26, 3) := by decide +kernel
theorem dX8_row_28 : decode cX8_row 28 = .ok (.aload_n 0, 1) := by decide +kernel
theorem dX8_row_29 : decode cX8_row 29 = .ok (.iload_n 3, 1) := by decide +kernel
theorem dX8_row_30 : decode cX8_row 30 = .ok (.invokevirtual 147, 3) := by decide +kernel
theorem dX8_row_33 : decode cX8_row 33 = .ok (.ifCond .eq 9, 3) := by decide +kernel
theorem dX8_row_36 : decode cX8_row 36 = .ok (.iinc 1 1, 3) := by decide +kernel
theorem dX8_row_39 : decode cX8_row 39 = .ok (.goto 6, 3) := by decide +kernel
theorem dX8_row_42 : decode cX8_row 42 = .ok (.iinc 2 1, 3) := by decide +kernel
theorem dX8_row_45 : decode cX8_row 45 = .ok (.iinc 3 6, 3) := by decide +kernel
theorem dX8_row_48 : decode cX8_row 48 = .ok (.goto (-28), 3) := by decide +kernel
theorem dX8_row_51 : decode cX8_row 51 = .ok (.aload_n 0, 1) := by decide +kernel
theorem dX8_row_52 : decode cX8_row 52 = .ok (.iconst 0, 1) := by decide +kernel
theorem dX8_row_53 : decode cX8_row 53 = .ok (.putfield 28, 3) := by decide +kernel
theorem dX8_row_56 : decode cX8_row 56 = .ok (.aload_n 0, 1) := by decide +kernel
theorem dX8_row_57 : decode cX8_row 57 = .ok (.iload_n 2, 1) := by decide +kernel
theorem dX8_row_58 : decode cX8_row 58 = .ok (.putfield 42, 3) := by decide +kernel
theorem dX8_row_61 : decode cX8_row 61 = .ok (.aload_n 0, 1) := by decide +kernel
theorem dX8_row_62 : decode cX8_row 62 = .ok (.getfield 48, 3) := by decide +kernel
theorem dX8_row_65 : decode cX8_row 65 = .ok (.invokevirtual 100, 3) := by decide +kernel
theorem dX8_row_68 : decode cX8_row 68 = .ok (.aload_n 0, 1) := by decide +kernel
theorem dX8_row_69 : decode cX8_row 69 = .ok (.iload_n 1, 1) := by decide +kernel
theorem dX8_row_70 : decode cX8_row 70 = .ok (.invokevirtual 103, 3) := by decide +kernel
theorem dX8_row_73 : decode cX8_row 73 = .ok (.ireturn, 1) := by decide +kernel
theorem dX8_mumbled_0 : decode cX8_mumbled 0 = .ok (.aload_n 0, 1) := by decide +kernel
theorem dX8_mumbled_1 : decode cX8_mumbled 1 = .ok (.getfield 42, 3) := by decide +kernel
theorem dX8_mumbled_4 : decode cX8_mumbled 4 = .ok (.ireturn, 1) := by decide +kernel
theorem dX8_law_0 : decode cX8_law 0 = .ok (.aload_n 0, 1) := by decide +kernel
theorem dX8_law_1 : decode cX8_law 1 = .ok (.getfield 28, 3) := by decide +kernel
theorem dX8_law_4 : decode cX8_law 4 = .ok (.istore_n 1, 1) := by decide +kernel
theorem dX8_law_5 : decode cX8_law 5 = .ok (.aload_n 0, 1) := by decide +kernel
theorem dX8_law_6 : decode cX8_law 6 = .ok (.iconst 0, 1) := by decide +kernel
theorem dX8_law_7 : decode cX8_law 7 = .ok (.putfield 28, 3) := by decide +kernel
theorem dX8_law_10 : decode cX8_law 10 = .ok (.aload_n 0, 1) := by decide +kernel
theorem dX8_law_11 : decode cX8_law 11 = .ok (.getfield 12, 3) := by decide +kernel
theorem dX8_law_14 : decode cX8_law 14 = .ok (.getfield 150, 3) := by decide +kernel
theorem dX8_law_17 : decode cX8_law 17 = .ok (.bipush 6, 2) := by decide +kernel
theorem dX8_law_19 : decode cX8_law 19 = .ok (.if_icmp .lt 10, 3) := by decide +kernel
theorem dX8_law_22 : decode cX8_law 22 = .ok (.aload_n 0, 1) := by decide +kernel
theorem dX8_law_23 : decode cX8_law 23 = .ok (.bipush (-5), 2) := by decide +kernel
theorem dX8_law_25 : decode cX8_law 25 = .ok (.invokevirtual 89, 3) := by decide +kernel
theorem dX8_law_28 : decode cX8_law 28 = .ok (.ireturn, 1) := by decide +kernel
theorem dX8_law_29 : decode cX8_law 29 = .ok (.aload_n 0, 1) := by decide +kernel
