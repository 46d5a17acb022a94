theorem dX9_winters_24 : decode cX9_winters 24 = .ok (.goto (-15), 3) := by decide +kernel
theorem dX9_winters_27 : decode cX9_winters 27 = .ok (.iconst 1, 1) := by decide +kernel
theorem dX9_winters_28 : decode cX9_winters 28 = .ok (.istore_n 3, 1) := by decide +kernel
theorem dX9_winters_29 : decode cX9_winters 29 = .ok (.iload_n 3, 1) := by decide +kernel
theorem dX9_winters_30 : decode cX9_winters 30 = .ok (.iload_n 1, 1) := by decide +kernel
theorem dX9_winters_31 : decode cX9_winters 31 = .ok (.if_icmp .gt 111, 3) := by decide +kernel
theorem dX9_winters_34 : decode cX9_winters 34 = .ok (.iconst 0, 1) := by decide +kernel
theorem dX9_winters_35 : decode cX9_winters 35 = .ok (.istore 4, 2) := by decide +kernel
theorem dX9_winters_37 : decode cX9_winters 37 = .ok (.iload 4, 2) := by decide +kernel
theorem dX9_winters_39 : decode cX9_winters 39 = .ok (.iload_n 2, 1) := by decide +kernel
theorem dX9_winters_40 : decode cX9_winters 40 = .ok (.if_icmp .ge 96, 3) := by decide +kernel
theorem dX9_winters_43 : decode cX9_winters 43 = .ok (.iconst 0, 1) := by decide +kernel
theorem dX9_winters_44 : decode cX9_winters 44 = .ok (.istore 5, 2) := by decide +kernel
theorem dX9_winters_46 : decode cX9_winters 46 = .ok (.iconst 0, 1) := by decide +kernel
theorem dX9_winters_47 : decode cX9_winters 47 = .ok (.istore 6, 2) := by decide +kernel
theorem dX9_winters_49 : decode cX9_winters 49 = .ok (.iload 6, 2) := by decide +kernel
theorem dX9_winters_51 : decode cX9_winters 51 = .ok (.iload 4, 2) := by decide +kernel
theorem dX9_winters_53 : decode cX9_winters 53 = .ok (.if_icmp .gt 62, 3) := by decide +kernel
theorem dX9_winters_56 : decode cX9_winters 56 = .ok (.iload 6, 2) := by decide +kernel
theorem dX9_winters_58 : decode cX9_winters 58 = .ok (.iload 4, 2) := by decide +kernel
theorem dX9_winters_60 : decode cX9_winters 60 = .ok (.iconst (-1), 1) := by decide +kernel
theorem dX9_winters_61 : decode cX9_winters 61 = .ok (.ixor, 1) := by decide +kernel
theorem dX9_winters_62 : decode cX9_winters 62 = .ok (.iand, 1) := by decide +kernel
theorem dX9_winters_63 : decode cX9_winters 63 = .ok (.ifCond .ne 46, 3) := by decide +kernel
theorem dX9_winters_66 : decode cX9_winters 66 = .ok (.aload_n 0, 1) := by decide +kernel
theorem dX9_winters_67 : decode cX9_winters 67 = .ok (.iload 6, 2) := by decide +kernel
theorem dX9_winters_69 : decode cX9_winters 69 = .ok (.invokevirtual 354, 3) := by decide +kernel
theorem dX9_winters_72 : decode cX9_winters 72 = .ok (.ifCond .eq 37, 3) := by decide +kernel
theorem dX9_winters_75 : decode cX9_winters 75 = .ok (.iload 5, 2) := by decide +kernel
theorem dX9_winters_77 : decode cX9_winters 77 = .ok (.aload_n 0, 1) := by decide +kernel
theorem dX9_winters_78 : decode cX9_winters 78 = .ok (.iload 6, 2) := by decide +kernel
theorem dX9_winters_80 : decode cX9_winters 80 = .ok (.invokevirtual 322, 3) := by decide +kernel
theorem dX9_winters_83 : decode cX9_winters 83 = .ok (.aload_n 0, 1) := by decide +kernel
theorem dX9_winters_84 : decode cX9_winters 84 = .ok (.getfield 82, 3) := by decide +kernel
theorem dX9_winters_87 : decode cX9_winters 87 = .ok (.sipush 1024, 3) := by decide +kernel
theorem dX9_winters_90 : decode cX9_winters 90 = .ok (.iload_n 3, 1) := by decide +kernel
theorem dX9_winters_91 : decode cX9_winters 91 = .ok (.iconst 1, 1) := by decide +kernel
theorem dX9_winters_92 : decode cX9_winters 92 = .ok (.isub, 1) := by decide +kernel
theorem dX9_winters_93 : decode cX9_winters 93 = .ok (.imul, 1) := by decide +kernel
theorem dX9_winters_94 : decode cX9_winters 94 = .ok (.iload 4, 2) := by decide +kernel
theorem dX9_winters_96 : decode cX9_winters 96 = .ok (.iload 6, 2) := by decide +kernel
theorem dX9_winters_98 : decode cX9_winters 98 = .ok (.iconst (-1), 1) := by decide +kernel
theorem dX9_winters_99 : decode cX9_winters 99 = .ok (.ixor, 1) := by decide +kernel
theorem dX9_winters_100 : decode cX9_winters 100 = .ok (.iand, 1) := by decide +kernel
theorem dX9_winters_101 : decode cX9_winters 101 = .ok (.iadd, 1) := by decide +kernel
theorem dX9_winters_102 : decode cX9_winters 102 = .ok (.iaload, 1) := by decide +kernel
theorem dX9_winters_103 : decode cX9_winters 103 = .ok (.iadd, 1) := by decide +kernel
theorem dX9_winters_104 : decode cX9_winters 104 = .ok (.invokestatic 291, 3) := by decide +kernel
theorem dX9_winters_107 : decode cX9_winters 107 = .ok (.istore 5, 2) := by decide +kernel
theorem dX9_winters_109 : decode cX9_winters 109 = .ok (.iinc 6 1, 3) := by decide +kernel
theorem dX9_winters_112 : decode cX9_winters 112 = .ok (.goto (-63), 3) := by decide +kernel
theorem dX9_winters_115 : decode cX9_winters 115 = .ok (.aload_n 0, 1) := by decide +kernel
theorem dX9_winters_116 : decode cX9_winters 116 = .ok (.getfield 82, 3) := by decide +kernel
theorem dX9_winters_119 : decode cX9_winters 119 = .ok (.sipush 1024, 3) := by decide +kernel
theorem dX9_winters_122 : decode cX9_winters 122 = .ok (.iload_n 3, 1) := by decide +kernel
theorem dX9_winters_123 : decode cX9_winters 123 = .ok (.imul, 1) := by decide +kernel
theorem dX9_winters_124 : decode cX9_winters 124 = .ok (.iload 4, 2) := by decide +kernel
theorem dX9_winters_126 : decode cX9_winters 126 = .ok (.iadd, 1) := by decide +kernel
theorem dX9_winters_127 : decode cX9_winters 127 = .ok (.iload 5, 2) := by decide +kernel
theorem dX9_winters_129 : decode cX9_winters 129 = .ok (.iastore, 1) := by decide +kernel
theorem dX9_winters_130 : decode cX9_winters 130 = .ok (.iinc 4 1, 3) := by decide +kernel
theorem dX9_winters_133 : decode cX9_winters 133 = .ok (.goto (-96), 3) := by decide +kernel
theorem dX9_winters_136 : decode cX9_winters 136 = .ok (.iinc 3 1, 3) := by decide +kernel
theorem dX9_winters_139 : decode cX9_winters 139 = .ok (.goto (-110), 3) := by decide +kernel
theorem dX9_winters_142 : decode cX9_winters 142 = .ok (.return_, 1) := by decide +kernel
theorem dX9_winter_0 : decode cX9_winter 0 = .ok (.iload_n 1, 1) := by decide +kernel
theorem dX9_winter_1 : decode cX9_winter 1 = .ok (.iconst 1, 1) := by decide +kernel
theorem dX9_winter_2 : decode cX9_winter 2 = .ok (.iconst 4, 1) := by decide +kernel
theorem dX9_winter_3 : decode cX9_winter 3 = .ok (.invokestatic 94, 3) := by decide +kernel
theorem dX9_winter_6 : decode cX9_winter 6 = .ok (.ifCond .eq 19, 3) := by decide +kernel
theorem dX9_winter_9 : decode cX9_winter 9 = .ok (.iload_n 2, 1) := by decide +kernel
theorem dX9_winter_10 : decode cX9_winter 10 = .ok (.iconst (-1), 1) := by decide +kernel
theorem dX9_winter_11 : decode cX9_winter 11 = .ok (.if_icmp .eq 16, 3) := by decide +kernel
theorem dX9_winter_14 : decode cX9_winter 14 = .ok (.iload_n 2, 1) := by decide +kernel
theorem dX9_winter_15 : decode cX9_winter 15 = .ok (.iconst 0, 1) := by decide +kernel
theorem dX9_winter_16 : decode cX9_winter 16 = .ok (.iload_n 1, 1) := by decide +kernel
theorem dX9_winter_17 : decode cX9_winter 17 = .ok (.iconst 1, 1) := by decide +kernel
theorem dX9_winter_18 : decode cX9_winter 18 = .ok (.isub, 1) := by decide +kernel
theorem dX9_winter_19 : decode cX9_winter 19 = .ok (.invokestatic 94, 3) := by decide +kernel
theorem dX9_winter_22 : decode cX9_winter 22 = .ok (.ifCond .ne 5, 3) := by decide +kernel
theorem dX9_winter_25 : decode cX9_winter 25 = .ok (.iconst (-1), 1) := by decide +kernel
theorem dX9_winter_26 : decode cX9_winter 26 = .ok (.ireturn, 1) := by decide +kernel
theorem dX9_winter_27 : decode cX9_winter 27 = .ok (.aload_n 0, 1) := by decide +kernel
theorem dX9_winter_28 : decode cX9_winter 28 = .ok (.invokevirtual 279, 3) := by decide +kernel
theorem dX9_winter_31 : decode cX9_winter 31 = .ok (.aload_n 0, 1) := by decide +kernel
theorem dX9_winter_32 : decode cX9_winter 32 = .ok (.iload_n 1, 1) := by decide +kernel
theorem dX9_winter_33 : decode cX9_winter 33 = .ok (.invokevirtual 357, 3) := by decide +kernel
theorem dX9_winter_36 : decode cX9_winter 36 = .ok (.iconst 1, 1) := by decide +kernel
theorem dX9_winter_37 : decode cX9_winter 37 = .ok (.aload_n 0, 1) := by decide +kernel
theorem dX9_winter_38 : decode cX9_winter 38 = .ok (.invokevirtual 105, 3) := by decide +kernel
theorem dX9_winter_41 : decode cX9_winter 41 = .ok (.ishl, 1) := by decide +kernel
theorem dX9_winter_42 : decode cX9_winter 42 = .ok (.iconst 1, 1) := by decide +kernel
theorem dX9_winter_43 : decode cX9_winter 43 = .ok (.isub, 1) := by decide +kernel
theorem dX9_winter_44 : decode cX9_winter 44 = .ok (.istore_n 3, 1) := by decide +kernel
theorem dX9_winter_45 : decode cX9_winter 45 = .ok (.iload_n 2, 1) := by decide +kernel
theorem dX9_winter_46 : decode cX9_winter 46 = .ok (.iconst (-1), 1) := by decide +kernel
theorem dX9_winter_47 : decode cX9_winter 47 = .ok (.if_icmp .ne 16, 3) := by decide +kernel
theorem dX9_winter_50 : decode cX9_winter 50 = .ok (.aload_n 0, 1) := by decide +kernel
theorem dX9_winter_51 : decode cX9_winter 51 = .ok (.getfield 82, 3) := by decide +kernel
theorem dX9_winter_54 : decode cX9_winter 54 = .ok (.sipush 1024, 3) := by decide +kernel
theorem dX9_winter_57 : decode cX9_winter 57 = .ok (.iload_n 1, 1) := by decide +kernel
theorem dX9_winter_58 : decode cX9_winter 58 = .ok (.imul, 1) := by decide +kernel
theorem dX9_winter_59 : decode cX9_winter 59 = .ok (.iload_n 3, 1) := by decide +kernel
theorem dX9_winter_60 : decode cX9_winter 60 = .ok (.iadd, 1) := by decide +kernel
theorem dX9_winter_61 : decode cX9_winter 61 = .ok (.iaload, 1) := by decide +kernel
theorem dX9_winter_62 : decode cX9_winter 62 = .ok (.ireturn, 1) := by decide +kernel
theorem dX9_winter_63 : decode cX9_winter 63 = .ok (.iconst 0, 1) := by decide +kernel
theorem dX9_winter_64 : decode cX9_winter 64 = .ok (.istore 4, 2) := by decide +kernel
theorem dX9_winter_66 : decode cX9_winter 66 = .ok (.iconst 0, 1) := by decide +kernel
theorem dX9_winter_67 : decode cX9_winter 67 = .ok (.istore 5, 2) := by decide +kernel
theorem dX9_winter_69 : decode cX9_winter 69 = .ok (.iload 5, 2) := by decide +kernel
theorem dX9_winter_71 : decode cX9_winter 71 = .ok (.iload_n 2, 1) := by decide +kernel
theorem dX9_winter_72 : decode cX9_winter 72 = .ok (.if_icmp .gt 92, 3) := by decide +kernel
theorem dX9_winter_75 : decode cX9_winter 75 = .ok (.iload_n 3, 1) := by decide +kernel
theorem dX9_winter_76 : decode cX9_winter 76 = .ok (.iload 4, 2) := by decide +kernel
theorem dX9_winter_78 : decode cX9_winter 78 = .ok (.iconst (-1), 1) := by decide +kernel
theorem dX9_winter_79 : decode cX9_winter 79 = .ok (.ixor, 1) := by decide +kernel
theorem dX9_winter_80 : decode cX9_winter 80 = .ok (.iand, 1) := by decide +kernel
theorem dX9_winter_81 : decode cX9_winter 81 = .ok (.istore_n 3, 1) := by decide +kernel
theorem dX9_winter_82 : decode cX9_winter 82 = .ok (.iload_n 1, 1) := by decide +kernel
theorem dX9_winter_83 : decode cX9_winter 83 = .ok (.iload 5, 2) := by decide +kernel
theorem dX9_winter_85 : decode cX9_winter 85 = .ok (.isub, 1) := by decide +kernel
theorem dX9_winter_86 : decode cX9_winter 86 = .ok (.istore 6, 2) := by decide +kernel
theorem dX9_winter_88 : decode cX9_winter 88 = .ok (.iconst 0, 1) := by decide +kernel
theorem dX9_winter_89 : decode cX9_winter 89 = .ok (.istore 4, 2) := by decide +kernel
theorem dX9_winter_91 : decode cX9_winter 91 = .ok (.iload 4, 2) := by decide +kernel
theorem dX9_winter_93 : decode cX9_winter 93 = .ok (.iload_n 3, 1) := by decide +kernel
theorem dX9_winter_94 : decode cX9_winter 94 = .ok (.iconst (-1), 1) := by decide +kernel
theorem dX9_winter_95 : decode cX9_winter 95 = .ok (.ixor, 1) := by decide +kernel
theorem dX9_winter_96 : decode cX9_winter 96 = .ok (.iand, 1) := by decide +kernel
theorem dX9_winter_97 : decode cX9_winter 97 = .ok (.ifCond .ne 55, 3) := by decide +kernel
theorem dX9_winter_100 : decode cX9_winter 100 = .ok (.aload_n 0, 1) := by decide +kernel
theorem dX9_winter_101 : decode cX9_winter 101 = .ok (.iload 4, 2) := by decide +kernel
theorem dX9_winter_103 : decode cX9_winter 103 = .ok (.invokevirtual 354, 3) := by decide +kernel
theorem dX9_winter_106 : decode cX9_winter 106 = .ok (.ifCond .eq 46, 3) := by decide +kernel
theorem dX9_winter_109 : decode cX9_winter 109 = .ok (.aload_n 0, 1) := by decide +kernel
theorem dX9_winter_110 : decode cX9_winter 110 = .ok (.iload 4, 2) := by decide +kernel
theorem dX9_winter_112 : decode cX9_winter 112 = .ok (.invokevirtual 322, 3) := by decide +kernel
theorem dX9_winter_115 : decode cX9_winter 115 = .ok (.aload_n 0, 1) := by decide +kernel
theorem dX9_winter_116 : decode cX9_winter 116 = .ok (.getfield 82, 3) := by decide +kernel
theorem dX9_winter_119 : decode cX9_winter 119 = .ok (.sipush 1024, 3) := by decide +kernel
theorem dX9_winter_122 : decode cX9_winter 122 = .ok (.iload 6, 2) := by decide +kernel
theorem dX9_winter_124 : decode cX9_winter 124 = .ok (.iconst 1, 1) := by decide +kernel
theorem dX9_winter_125 : decode cX9_winter 125 = .ok (.isub, 1) := by decide +kernel
theorem dX9_winter_126 : decode cX9_winter 126 = .ok (.imul, 1) := by decide +kernel
theorem dX9_winter_127 : decode cX9_winter 127 = .ok (.iload_n 3, 1) := by decide +kernel
theorem dX9_winter_128 : decode cX9_winter 128 = .ok (.iload 4, 2) := by decide +kernel
theorem dX9_winter_130 : decode cX9_winter 130 = .ok (.iconst (-1), 1) := by decide +kernel
theorem dX9_winter_131 : decode cX9_winter 131 = .ok (.ixor, 1) := by decide +kernel
theorem dX9_winter_132 : decode cX9_winter 132 = .ok (.iand, 1) := by decide +kernel
theorem dX9_winter_133 : decode cX9_winter 133 = .ok (.iadd, 1) := by decide +kernel
theorem dX9_winter_134 : decode cX9_winter 134 = .ok (.iaload, 1) := by decide +kernel
theorem dX9_winter_135 : decode cX9_winter 135 = .ok (.iadd, 1) := by decide +kernel
theorem dX9_winter_136 : decode cX9_winter 136 = .ok (.aload_n 0, 1) := by decide +kernel
theorem dX9_winter_137 : decode cX9_winter 137 = .ok (.getfield 82, 3) := by decide +kernel
theorem dX9_winter_140 : decode cX9_winter 140 = .ok (.sipush 1024, 3) := by decide +kernel
theorem dX9_winter_143 : decode cX9_winter 143 = .ok (.iload 6, 2) := by decide +kernel
theorem dX9_winter_145 : decode cX9_winter 145 = .ok (.imul, 1) := by decide +kernel
theorem dX9_winter_146 : decode cX9_winter 146 = .ok (.iload_n 3, 1) := by decide +kernel
theorem dX9_winter_147 : decode cX9_winter 147 = .ok (.iadd, 1) := by decide +kernel
theorem dX9_winter_148 : decode cX9_winter 148 = .ok (.iaload, 1) := by decide +kernel
theorem dX9_winter_149 : decode cX9_winter 149 = .ok (.if_icmp .eq 9, 3) := by decide +kernel
theorem dX9_winter_152 : decode cX9_winter 152 = .ok (.iinc 4 1, 3) := by decide +kernel
theorem dX9_winter_155 : decode cX9_winter 155 = .ok (.goto (-64), 3) := by decide +kernel
theorem dX9_winter_158 : decode cX9_winter 158 = .ok (.iinc 5 1, 3) := by decide +kernel
theorem dX9_winter_161 : decode cX9_winter 161 = .ok (.goto (-92), 3) := by decide +kernel
theorem dX9_winter_164 : decode cX9_winter 164 = .ok (.iload 4, 2) := by decide +kernel
theorem dX9_winter_166 : decode cX9_winter 166 = .ok (.ireturn, 1) := by decide +kernel
theorem dX9_learn_0 : decode cX9_learn 0 = .ok (.aload_n 0, 1) := by decide +kernel
theorem dX9_learn_1 : decode cX9_learn 1 = .ok (.iload_n 1, 1) := by decide +kernel
theorem dX9_learn_2 : decode cX9_learn 2 = .ok (.invokevirtual 282, 3) := by decide +kernel
theorem dX9_learn_5 : decode cX9_learn 5 = .ok (.ifCond .eq 12, 3) := by decide +kernel
theorem dX9_learn_8 : decode cX9_learn 8 = .ok (.iload_n 2, 1) := by decide +kernel
theorem dX9_learn_9 : decode cX9_learn 9 = .ok (.iconst 0, 1) := by decide +kernel
theorem dX9_learn_10 : decode cX9_learn 10 = .ok (.iconst 1, 1) := by decide +kernel
theorem dX9_learn_11 : decode cX9_learn 11 = .ok (.invokestatic 94, 3) := by decide +kernel
theorem dX9_learn_14 : decode cX9_learn 14 = .ok (.ifCond .ne 5, 3) := by decide +kernel
theorem dX9_learn_17 : decode cX9_learn 17 = .ok (.iconst (-1), 1) := by decide +kernel
theorem dX9_learn_18 : decode cX9_learn 18 = .ok (.ireturn, 1) := by decide +kernel
theorem dX9_learn_19 : decode cX9_learn 19 = .ok (.iconst (-1), 1) := by decide +kernel
theorem dX9_learn_20 : decode cX9_learn 20 = .ok (.istore_n 3, 1) := by decide +kernel
theorem dX9_learn_21 : decode cX9_learn 21 = .ok (.iconst (-1), 1) := by decide +kernel
theorem dX9_learn_22 : decode cX9_learn 22 = .ok (.istore 4, 2) := by decide +kernel
theorem dX9_learn_24 : decode cX9_learn 24 = .ok (.iconst 0, 1) := by decide +kernel
theorem dX9_learn_25 : decode cX9_learn 25 = .ok (.istore 5, 2) := by decide +kernel
theorem dX9_learn_27 : decode cX9_learn 27 = .ok (.iload 5, 2) := by decide +kernel
theorem dX9_learn_29 : decode cX9_learn 29 = .ok (.aload_n 0, 1) := by decide +kernel
theorem dX9_learn_30 : decode cX9_learn 30 = .ok (.invokevirtual 105, 3) := by decide +kernel
theorem dX9_learn_33 : decode cX9_learn 33 = .ok (.if_icmp .ge 98, 3) := by decide +kernel
theorem dX9_learn_36 : decode cX9_learn 36 = .ok (.aload_n 0, 1) := by decide +kernel
theorem dX9_learn_37 : decode cX9_learn 37 = .ok (.iload 5, 2) := by decide +kernel
theorem dX9_learn_39 : decode cX9_learn 39 = .ok (.iconst 3, 1) := by decide +kernel
theorem dX9_learn_40 : decode cX9_learn 40 = .ok (.invokevirtual 121, 3) := by decide +kernel
theorem dX9_learn_43 : decode cX9_learn 43 = .ok (.iload_n 1, 1) := by decide +kernel
theorem dX9_learn_44 : decode cX9_learn 44 = .ok (.invokestatic 269, 3) := by decide +kernel
theorem dX9_learn_47 : decode cX9_learn 47 = .ok (.ifCond .eq 6, 3) := by decide +kernel
theorem dX9_learn_50 : decode cX9_learn 50 = .ok (.goto 75, 3) := by decide +kernel
theorem dX9_learn_53 : decode cX9_learn 53 = .ok (.aload_n 0, 1) := by decide +kernel
theorem dX9_learn_54 : decode cX9_learn 54 = .ok (.getfield 20, 3) := by decide +kernel
theorem dX9_learn_57 : decode cX9_learn 57 = .ok (.iconst 4, 1) := by decide +kernel
theorem dX9_learn_58 : decode cX9_learn 58 = .ok (.iload 5, 2) := by decide +kernel
theorem dX9_learn_60 : decode cX9_learn 60 = .ok (.imul, 1) := by decide +kernel
theorem dX9_learn_61 : decode cX9_learn 61 = .ok (.iconst 3, 1) := by decide +kernel
theorem dX9_learn_62 : decode cX9_learn 62 = .ok (.iadd, 1) := by decide +kernel
theorem dX9_learn_63 : decode cX9_learn 63 = .ok (.dup2, 1) := by decide +kernel
theorem dX9_learn_64 : decode cX9_learn 64 = .ok (.iaload, 1) := by decide +kernel
theorem dX9_learn_65 : decode cX9_learn 65 = .ok (.iconst 1, 1) := by decide +kernel
theorem dX9_learn_66 : decode cX9_learn 66 = .ok (.iload_n 1, 1) := by decide +kernel
theorem dX9_learn_67 : decode cX9_learn 67 = .ok (.ishl, 1) := by decide +kernel
theorem dX9_learn_68 : decode cX9_learn 68 = .ok (.ior, 1) := by decide +kernel
theorem dX9_learn_69 : decode cX9_learn 69 = .ok (.iastore, 1) := by decide +kernel
theorem dX9_learn_70 : decode cX9_learn 70 = .ok (.aload_n 0, 1) := by decide +kernel
theorem dX9_learn_71 : decode cX9_learn 71 = .ok (.invokevirtual 273, 3) := by decide +kernel
theorem dX9_learn_74 : decode cX9_learn 74 = .ok (.aload_n 0, 1) := by decide +kernel
theorem dX9_learn_75 : decode cX9_learn 75 = .ok (.invokevirtual 276, 3) := by decide +kernel
theorem dX9_learn_78 : decode cX9_learn 78 = .ok (.aload_n 0, 1) := by decide +kernel
theorem dX9_learn_79 : decode cX9_learn 79 = .ok (.aload_n 0, 1) := by decide +kernel
theorem dX9_learn_80 : decode cX9_learn 80 = .ok (.iconst 0, 1) := by decide +kernel
theorem dX9_learn_81 : decode cX9_learn 81 = .ok (.invokevirtual 328, 3) := by decide +kernel
theorem dX9_learn_84 : decode cX9_learn 84 = .ok (.invokevirtual 322, 3) := by decide +kernel
theorem dX9_learn_87 : decode cX9_learn 87 = .ok (.istore 6, 2) := by decide +kernel
theorem dX9_learn_89 : decode cX9_learn 89 = .ok (.aload_n 0, 1) := by decide +kernel
theorem dX9_learn_90 : decode cX9_learn 90 = .ok (.getfield 20, 3) := by decide +kernel
theorem dX9_learn_93 : decode cX9_learn 93 = .ok (.iconst 4, 1) := by decide +kernel
theorem dX9_learn_94 : decode cX9_learn 94 = .ok (.iload 5, 2) := by decide +kernel
theorem dX9_learn_96 : decode cX9_learn 96 = .ok (.imul, 1) := by decide +kernel
theorem dX9_learn_97 : decode cX9_learn 97 = .ok (.iconst 3, 1) := by decide +kernel
theorem dX9_learn_98 : decode cX9_learn 98 = .ok (.iadd, 1) := by decide +kernel
theorem dX9_learn_99 : decode cX9_learn 99 = .ok (.dup2, 1) := by decide +kernel
theorem dX9_learn_100 : decode cX9_learn 100 = .ok (.iaload, 1) := by decide +kernel
theorem dX9_learn_101 : decode cX9_learn 101 = .ok (.iconst 1, 1) := by decide +kernel
theorem dX9_learn_102 : decode cX9_learn 102 = .ok (.iload_n 1, 1) := by decide +kernel
theorem dX9_learn_103 : decode cX9_learn 103 = .ok (.ishl, 1) := by decide +kernel
theorem dX9_learn_104 : decode cX9_learn 104 = .ok (.iconst (-1), 1) := by decide +kernel
theorem dX9_learn_105 : decode cX9_learn 105 = .ok (.ixor, 1) := by decide +kernel
theorem dX9_learn_106 : decode cX9_learn 106 = .ok (.iand, 1) := by decide +kernel
theorem dX9_learn_107 : decode cX9_learn 107 = .ok (.iastore, 1) := by decide +kernel
theorem dX9_learn_108 : decode cX9_learn 108 = .ok (.iload 6, 2) := by decide +kernel
theorem dX9_learn_110 : decode cX9_learn 110 = .ok (.iload 4, 2) := by decide +kernel
theorem dX9_learn_112 : decode cX9_learn 112 = .ok (.if_icmp .gt 6, 3) := by decide +kernel
theorem dX9_learn_115 : decode cX9_learn 115 = .ok (.goto 10, 3) := by decide +kernel
theorem dX9_learn_118 : decode cX9_learn 118 = .ok (.iload 6, 2) := by decide +kernel
theorem dX9_learn_120 : decode cX9_learn 120 = .ok (.istore 4, 2) := by decide +kernel
theorem dX9_learn_122 : decode cX9_learn 122 = .ok (.iload 5, 2) := by decide +kernel
theorem dX9_learn_124 : decode cX9_learn 124 = .ok (.istore_n 3, 1) := by decide +kernel
theorem dX9_learn_125 : decode cX9_learn 125 = .ok (.iinc 5 1, 3) := by decide +kernel
theorem dX9_learn_128 : decode cX9_learn 128 = .ok (.goto (-101), 3) := by decide +kernel
theorem dX9_learn_131 : decode cX9_learn 131 = .ok (.aload_n 0, 1) := by decide +kernel
theorem dX9_learn_132 : decode cX9_learn 132 = .ok (.iconst (-1), 1) := by decide +kernel
theorem dX9_learn_133 : decode cX9_learn 133 = .ok (.putfield 64, 3) := by decide +kernel
theorem dX9_learn_136 : decode cX9_learn 136 = .ok (.iload_n 3, 1) := by decide +kernel
theorem dX9_learn_137 : decode cX9_learn 137 = .ok (.iconst (-1), 1) := by decide +kernel
theorem dX9_learn_138 : decode cX9_learn 138 = .ok (.if_icmp .eq 7, 3) := by decide +kernel
theorem dX9_learn_141 : decode cX9_learn 141 = .ok (.iload_n 2, 1) := by decide +kernel
theorem dX9_learn_142 : decode cX9_learn 142 = .ok (.ifCond .ne 7, 3) := by decide +kernel
theorem dX9_learn_145 : decode cX9_learn 145 = .ok (.iload_n 3, 1) := by decide +kernel
theorem dX9_learn_146 : decode cX9_learn 146 = .ok (.goto 5, 3) := by decide +kernel
theorem dX9_learn_149 : decode cX9_learn 149 = .ok (.iload 4, 2) := by decide +kernel
theorem dX9_learn_151 : decode cX9_learn 151 = .ok (.ireturn, 1) := by decide +kernel
theorem dX9_mention_0 : decode cX9_mention 0 = .ok (.iload_n 3, 1) := by decide +kernel
theorem dX9_mention_1 : decode cX9_mention 1 = .ok (.iconst 0, 1) := by decide +kernel
theorem dX9_mention_2 : decode cX9_mention 2 = .ok (.sipush 500, 3) := by decide +kernel
theorem dX9_mention_5 : decode cX9_mention 5 = .ok (.invokestatic 94, 3) := by decide +kernel
theorem dX9_mention_8 : decode cX9_mention 8 = .ok (.ifCond .ne 9, 3) := by decide +kernel
theorem dX9_mention_11 : decode cX9_mention 11 = .ok (.aload_n 0, 1) := by decide +kernel
theorem dX9_mention_12 : decode cX9_mention 12 = .ok (.iconst (-1), 1) := by decide +kernel
theorem dX9_mention_13 : decode cX9_mention 13 = .ok (.invokevirtual 98, 3) := by decide +kernel
theorem dX9_mention_16 : decode cX9_mention 16 = .ok (.ireturn, 1) := by decide +kernel
theorem dX9_mention_17 : decode cX9_mention 17 = .ok (.aload_n 0, 1) := by decide +kernel
theorem dX9_mention_18 : decode cX9_mention 18 = .ok (.iload_n 1, 1) := by decide +kernel
theorem dX9_mention_19 : decode cX9_mention 19 = .ok (.invokevirtual 117, 3) := by decide +kernel
theorem dX9_mention_22 : decode cX9_mention 22 = .ok (.ifCond .eq 11, 3) := by decide +kernel
theorem dX9_mention_25 : decode cX9_mention 25 = .ok (.aload_n 0, 1) := by decide +kernel
theorem dX9_mention_26 : decode cX9_mention 26 = .ok (.iload_n 2, 1) := by decide +kernel
theorem dX9_mention_27 : decode cX9_mention 27 = .ok (.invokevirtual 117, 3) := by decide +kernel
theorem dX9_mention_30 : decode cX9_mention 30 = .ok (.ifCond .ne 10, 3) := by decide +kernel
theorem dX9_mention_33 : decode cX9_mention 33 = .ok (.aload_n 0, 1) := by decide +kernel
theorem dX9_mention_34 : decode cX9_mention 34 = .ok (.bipush (-2), 2) := by decide +kernel
theorem dX9_mention_36 : decode cX9_mention 36 = .ok (.invokevirtual 98, 3) := by decide +kernel
theorem dX9_mention_39 : decode cX9_mention 39 = .ok (.ireturn, 1) := by decide +kernel
theorem dX9_mention_40 : decode cX9_mention 40 = .ok (.iload_n 1, 1) := by decide +kernel
theorem dX9_mention_41 : decode cX9_mention 41 = .ok (.iload_n 2, 1) := by decide +kernel
theorem dX9_mention_42 : decode cX9_mention 42 = .ok (.if_icmp .ne 10, 3) := by decide +kernel
theorem dX9_mention_45 : decode cX9_mention 45 = .ok (.aload_n 0, 1) := by decide +kernel
theorem dX9_mention_46 : decode cX9_mention 46 = .ok (.bipush (-3), 2) := by decide +kernel
theorem dX9_mention_48 : decode cX9_mention 48 = .ok (.invokevirtual 98, 3) := by decide +kernel
theorem dX9_mention_51 : decode cX9_mention 51 = .ok (.ireturn, 1) := by decide +kernel
theorem dX9_mention_52 : decode cX9_mention 52 = .ok (.aload_n 0, 1) := by decide +kernel
theorem dX9_mention_53 : decode cX9_mention 53 = .ok (.getfield 20, 3) := by decide +kernel
theorem dX9_mention_56 : decode cX9_mention 56 = .ok (.sipush 135, 3) := by decide +kernel
theorem dX9_mention_59 : decode cX9_mention 59 = .ok (.iaload, 1) := by decide +kernel
theorem dX9_mention_60 : decode cX9_mention 60 = .ok (.istore 4, 2) := by decide +kernel
theorem dX9_mention_62 : decode cX9_mention 62 = .ok (.iload 4, 2) := by decide +kernel
theorem dX9_mention_64 : decode cX9_mention 64 = .ok (.bipush 10, 2) := by decide +kernel
theorem dX9_mention_66 : decode cX9_mention 66 = .ok (.if_icmp .ne 10, 3) := by decide +kernel
theorem dX9_mention_69 : decode cX9_mention 69 = .ok (.aload_n 0, 1) := by decide +kernel
theorem dX9_mention_70 : decode cX9_mention 70 = .ok (.bipush (-5), 2) := by decide +kernel
theorem dX9_mention_72 : decode cX9_mention 72 = .ok (.invokevirtual 98, 3) := by decide +kernel
theorem dX9_mention_75 : decode cX9_mention 75 = .ok (.ireturn, 1) := by decide +kernel
theorem dX9_mention_76 : decode cX9_mention 76 = .ok (.aload_n 0, 1) := by decide +kernel
theorem dX9_mention_77 : decode cX9_mention 77 = .ok (.getfield 20, 3) := by decide +kernel
theorem dX9_mention_80 : decode cX9_mention 80 = .ok (.bipush 73, 2) := by decide +kernel
theorem dX9_mention_82 : decode cX9_mention 82 = .ok (.iconst 3, 1) := by decide +kernel
theorem dX9_mention_83 : decode cX9_mention 83 = .ok (.iload 4, 2) := by decide +kernel
theorem dX9_mention_85 : decode cX9_mention 85 = .ok (.imul, 1) := by decide +kernel
theorem dX9_mention_86 : decode cX9_mention 86 = .ok (.iadd, 1) := by decide +kernel
theorem dX9_mention_87 : decode cX9_mention 87 = .ok (.iload_n 1, 1) := by decide +kernel
theorem dX9_mention_88 : decode cX9_mention 88 = .ok (.iastore, 1) := by decide +kernel
theorem dX9_mention_89 : decode cX9_mention 89 = .ok (.aload_n 0, 1) := by decide +kernel
theorem dX9_mention_90 : decode cX9_mention 90 = .ok (.getfield 20, 3) := by decide +kernel
theorem dX9_mention_93 : decode cX9_mention 93 = .ok (.bipush 73, 2) := by decide +kernel
theorem dX9_mention_95 : decode cX9_mention 95 = .ok (.iconst 3, 1) := by decide +kernel
theorem dX9_mention_96 : decode cX9_mention 96 = .ok (.iload 4, 2) := by decide +kernel
theorem dX9_mention_98 : decode cX9_mention 98 = .ok (.imul, 1) := by decide +kernel
theorem dX9_mention_99 : decode cX9_mention 99 = .ok (.iadd, 1) := by decide +kernel
theorem dX9_mention_100 : decode cX9_mention 100 = .ok (.iconst 1, 1) := by decide +kernel
theorem dX9_mention_101 : decode cX9_mention 101 = .ok (.iadd, 1) := by decide +kernel
theorem dX9_mention_102 : decode cX9_mention 102 = .ok (.iload_n 2, 1) := by decide +kernel
theorem dX9_mention_103 : decode cX9_mention 103 = .ok (.iastore, 1) := by decide +kernel
theorem dX9_mention_104 : decode cX9_mention 104 = .ok (.aload_n 0, 1) := by decide +kernel
theorem dX9_mention_105 : decode cX9_mention 105 = .ok (.getfield 20, 3) := by decide +kernel
theorem dX9_mention_108 : decode cX9_mention 108 = .ok (.bipush 73, 2) := by decide +kernel
theorem dX9_mention_110 : decode cX9_mention 110 = .ok (.iconst 3, 1) := by decide +kernel
theorem dX9_mention_111 : decode cX9_mention 111 = .ok (.iload 4, 2) := by decide +kernel
theorem dX9_mention_113 : decode cX9_mention 113 = .ok (.imul, 1) := by decide +kernel
theorem dX9_mention_114 : decode cX9_mention 114 = .ok (.iadd, 1) := by decide +kernel
theorem dX9_mention_115 : decode cX9_mention 115 = .ok (.iconst 2, 1) := by decide +kernel
theorem dX9_mention_116 : decode cX9_mention 116 = .ok (.iadd, 1) := by decide +kernel
theorem dX9_mention_117 : decode cX9_mention 117 = .ok (.iload_n 3, 1) := by decide +kernel
theorem dX9_mention_118 : decode cX9_mention 118 = .ok (.iastore, 1) := by decide +kernel
theorem dX9_mention_119 : decode cX9_mention 119 = .ok (.aload_n 0, 1) := by decide +kernel
theorem dX9_mention_120 : decode cX9_mention 120 = .ok (.getfield 20, 3) := by decide +kernel
theorem dX9_mention_123 : decode cX9_mention 123 = .ok (.sipush 135, 3) := by decide +kernel
theorem dX9_mention_126 : decode cX9_mention 126 = .ok (.dup2, 1) := by decide +kernel
theorem dX9_mention_127 : decode cX9_mention 127 = .ok (.iaload, 1) := by decide +kernel
theorem dX9_mention_128 : decode cX9_mention 128 = .ok (.iconst 1, 1) := by decide +kernel
theorem dX9_mention_129 : decode cX9_mention 129 = .ok (.iadd, 1) := by decide +kernel
theorem dX9_mention_130 : decode cX9_mention 130 = .ok (.iastore, 1) := by decide +kernel
theorem dX9_mention_131 : decode cX9_mention 131 = .ok (.aload_n 0, 1) := by decide +kernel
theorem dX9_mention_132 : decode cX9_mention 132 = .ok (.iload 4, 2) := by decide +kernel
theorem dX9_mention_134 : decode cX9_mention 134 = .ok (.iconst 1, 1) := by decide +kernel
theorem dX9_mention_135 : decode cX9_mention 135 = .ok (.iadd, 1) := by decide +kernel
theorem dX9_mention_136 : decode cX9_mention 136 = .ok (.invokevirtual 102, 3) := by decide +kernel
theorem dX9_mention_139 : decode cX9_mention 139 = .ok (.ireturn, 1) := by decide +kernel
theorem dX9_forget_0 : decode cX9_forget 0 = .ok (.aload_n 0, 1) := by decide +kernel
theorem dX9_forget_1 : decode cX9_forget 1 = .ok (.getfield 20, 3) := by decide +kernel
theorem dX9_forget_4 : decode cX9_forget 4 = .ok (.sipush 135, 3) := by decide +kernel
theorem dX9_forget_7 : decode cX9_forget 7 = .ok (.iaload, 1) := by decide +kernel
theorem dX9_forget_8 : decode cX9_forget 8 = .ok (.istore_n 1, 1) := by decide +kernel
theorem dX9_forget_9 : decode cX9_forget 9 = .ok (.aload_n 0, 1) := by decide +kernel
theorem dX9_forget_10 : decode cX9_forget 10 = .ok (.getfield 20, 3) := by decide +kernel
theorem dX9_forget_13 : decode cX9_forget 13 = .ok (.sipush 135, 3) := by decide +kernel
theorem dX9_forget_16 : decode cX9_forget 16 = .ok (.iconst 0, 1) := by decide +kernel
theorem dX9_forget_17 : decode cX9_forget 17 = .ok (.iastore, 1) := by decide +kernel
theorem dX9_forget_18 : decode cX9_forget 18 = .ok (.aload_n 0, 1) := by decide +kernel
theorem dX9_forget_19 : decode cX9_forget 19 = .ok (.dup, 1) := by decide +kernel
theorem dX9_forget_20 : decode cX9_forget 20 = .ok (.getfield 11, 3) := by decide +kernel
theorem dX9_forget_23 : decode cX9_forget 23 = .ok (.iconst 1, 1) := by decide +kernel
theorem dX9_forget_24 : decode cX9_forget 24 = .ok (.iadd, 1) := by decide +kernel
theorem dX9_forget_25 : decode cX9_forget 25 = .ok (.putfield 11, 3) := by decide +kernel
theorem dX9_forget_28 : decode cX9_forget 28 = .ok (.iload_n 1, 1) := by decide +kernel
theorem dX9_forget_29 : decode cX9_forget 29 = .ok (.ireturn, 1) := by decide +kernel
theorem dX9_agree_0 : decode cX9_agree 0 = .ok (.iconst 0, 1) := by decide +kernel
theorem dX9_agree_1 : decode cX9_agree 1 = .ok (.istore_n 2, 1) := by decide +kernel
theorem dX9_agree_2 : decode cX9_agree 2 = .ok (.iload_n 2, 1) := by decide +kernel
theorem dX9_agree_3 : decode cX9_agree 3 = .ok (.aload_n 0, 1) := by decide +kernel
theorem dX9_agree_4 : decode cX9_agree 4 = .ok (.invokevirtual 105, 3) := by decide +kernel
theorem dX9_agree_7 : decode cX9_agree 7 = .ok (.if_icmp .ge 33, 3) := by decide +kernel
theorem dX9_agree_10 : decode cX9_agree 10 = .ok (.aload_n 0, 1) := by decide +kernel
theorem dX9_agree_11 : decode cX9_agree 11 = .ok (.getfield 85, 3) := by decide +kernel
theorem dX9_agree_14 : decode cX9_agree 14 = .ok (.iload_n 2, 1) := by decide +kernel
theorem dX9_agree_15 : decode cX9_agree 15 = .ok (.aload_n 0, 1) := by decide +kernel
theorem dX9_agree_16 : decode cX9_agree 16 = .ok (.iload_n 2, 1) := by decide +kernel
theorem dX9_agree_17 : decode cX9_agree 17 = .ok (.iconst 0, 1) := by decide +kernel
theorem dX9_agree_18 : decode cX9_agree 18 = .ok (.invokevirtual 121, 3) := by decide +kernel
theorem dX9_agree_21 : decode cX9_agree 21 = .ok (.iastore, 1) := by decide +kernel
theorem dX9_agree_22 : decode cX9_agree 22 = .ok (.aload_n 0, 1) := by decide +kernel
theorem dX9_agree_23 : decode cX9_agree 23 = .ok (.getfield 88, 3) := by decide +kernel
theorem dX9_agree_26 : decode cX9_agree 26 = .ok (.iload_n 2, 1) := by decide +kernel
theorem dX9_agree_27 : decode cX9_agree 27 = .ok (.aload_n 0, 1) := by decide +kernel
theorem dX9_agree_28 : decode cX9_agree 28 = .ok (.iload_n 2, 1) := by decide +kernel
theorem dX9_agree_29 : decode cX9_agree 29 = .ok (.iconst 1, 1) := by decide +kernel
theorem dX9_agree_30 : decode cX9_agree 30 = .ok (.invokevirtual 121, 3) := by decide +kernel
theorem dX9_agree_33 : decode cX9_agree 33 = .ok (.iastore, 1) := by decide +kernel
theorem dX9_agree_34 : decode cX9_agree 34 = .ok (.iinc 2 1, 3) := by decide +kernel
theorem dX9_agree_37 : decode cX9_agree 37 = .ok (.goto (-35), 3) := by decide +kernel
theorem dX9_agree_40 : decode cX9_agree 40 = .ok (.iconst 1, 1) := by decide +kernel
theorem dX9_agree_41 : decode cX9_agree 41 = .ok (.istore_n 2, 1) := by decide +kernel
theorem dX9_agree_42 : decode cX9_agree 42 = .ok (.iload_n 2, 1) := by decide +kernel
theorem dX9_agree_43 : decode cX9_agree 43 = .ok (.ifCond .eq 196, 3) := by decide +kernel
theorem dX9_agree_46 : decode cX9_agree 46 = .ok (.iconst 0, 1) := by decide +kernel
theorem dX9_agree_47 : decode cX9_agree 47 = .ok (.istore_n 2, 1) := by decide +kernel
theorem dX9_agree_48 : decode cX9_agree 48 = .ok (.iconst 0, 1) := by decide +kernel
theorem dX9_agree_49 : decode cX9_agree 49 = .ok (.istore_n 3, 1) := by decide +kernel
theorem dX9_agree_50 : decode cX9_agree 50 = .ok (.iload_n 3, 1) := by decide +kernel
theorem dX9_agree_51 : decode cX9_agree 51 = .ok (.aload_n 0, 1) := by decide +kernel
theorem dX9_agree_52 : decode cX9_agree 52 = .ok (.getfield 20, 3) := by decide +kernel
theorem dX9_agree_55 : decode cX9_agree 55 = .ok (.sipush 135, 3) := by decide +kernel
theorem dX9_agree_58 : decode cX9_agree 58 = .ok (.iaload, 1) := by decide +kernel
theorem dX9_agree_59 : decode cX9_agree 59 = .ok (.if_icmp .ge 177, 3) := by decide +kernel
theorem dX9_agree_62 : decode cX9_agree 62 = .ok (.iload_n 1, 1) := by decide +kernel
theorem dX9_agree_63 : decode cX9_agree 63 = .ok (.iload_n 3, 1) := by decide +kernel
theorem dX9_agree_64 : decode cX9_agree 64 = .ok (.invokestatic 269, 3) := by decide +kernel
theorem dX9_agree_67 : decode cX9_agree 67 = .ok (.ifCond .eq 6, 3) := by decide +kernel
theorem dX9_agree_70 : decode cX9_agree 70 = .ok (.goto 160, 3) := by decide +kernel
theorem dX9_agree_73 : decode cX9_agree 73 = .ok (.aload_n 0, 1) := by decide +kernel
theorem dX9_agree_74 : decode cX9_agree 74 = .ok (.getfield 20, 3) := by decide +kernel
theorem dX9_agree_77 : decode cX9_agree 77 = .ok (.bipush 73, 2) := by decide +kernel
theorem dX9_agree_79 : decode cX9_agree 79 = .ok (.iconst 3, 1) := by decide +kernel
theorem dX9_agree_80 : decode cX9_agree 80 = .ok (.iload_n 3, 1) := by decide +kernel
theorem dX9_agree_81 : decode cX9_agree 81 = .ok (.imul, 1) := by decide +kernel
theorem dX9_agree_82 : decode cX9_agree 82 = .ok (.iadd, 1) := by decide +kernel
theorem dX9_agree_83 : decode cX9_agree 83 = .ok (.iaload, 1) := by decide +kernel
theorem dX9_agree_84 : decode cX9_agree 84 = .ok (.istore 4, 2) := by decide +kernel
theorem dX9_agree_86 : decode cX9_agree 86 = .ok (.aload_n 0, 1) := by decide +kernel
theorem dX9_agree_87 : decode cX9_agree 87 = .ok (.getfield 20, 3) := by decide +kernel
theorem dX9_agree_90 : decode cX9_agree 90 = .ok (.bipush 73, 2) := by decide +kernel
theorem dX9_agree_92 : decode cX9_agree 92 = .ok (.iconst 3, 1) := by decide +kernel
theorem dX9_agree_93 : decode cX9_agree 93 = .ok (.iload_n 3, 1) := by decide +kernel
theorem dX9_agree_94 : decode cX9_agree 94 = .ok (.imul, 1) := by decide +kernel
theorem dX9_agree_95 : decode cX9_agree 95 = .ok (.iadd, 1) := by decide +kernel
theorem dX9_agree_96 : decode cX9_agree 96 = .ok (.iconst 1, 1) := by decide +kernel
theorem dX9_agree_97 : decode cX9_agree 97 = .ok (.iadd, 1) := by decide +kernel
theorem dX9_agree_98 : decode cX9_agree 98 = .ok (.iaload, 1) := by decide +kernel
theorem dX9_agree_99 : decode cX9_agree 99 = .ok (.istore 5, 2) := by decide +kernel
theorem dX9_agree_101 : decode cX9_agree 101 = .ok (.aload_n 0, 1) := by decide +kernel
theorem dX9_agree_102 : decode cX9_agree 102 = .ok (.getfield 20, 3) := by decide +kernel
theorem dX9_agree_105 : decode cX9_agree 105 = .ok (.bipush 73, 2) := by decide +kernel
theorem dX9_agree_107 : decode cX9_agree 107 = .ok (.iconst 3, 1) := by decide +kernel
theorem dX9_agree_108 : decode cX9_agree 108 = .ok (.iload_n 3, 1) := by decide +kernel
theorem dX9_agree_109 : decode cX9_agree 109 = .ok (.imul, 1) := by decide +kernel
theorem dX9_agree_110 : decode cX9_agree 110 = .ok (.iadd, 1) := by decide +kernel
theorem dX9_agree_111 : decode cX9_agree 111 = .ok (.iconst 2, 1) := by decide +kernel
theorem dX9_agree_112 : decode cX9_agree 112 = .ok (.iadd, 1) := by decide +kernel
theorem dX9_agree_113 : decode cX9_agree 113 = .ok (.iaload, 1) := by decide +kernel
theorem dX9_agree_114 : decode cX9_agree 114 = .ok (.istore 6, 2) := by decide +kernel
theorem dX9_agree_116 : decode cX9_agree 116 = .ok (.aload_n 0, 1) := by decide +kernel
theorem dX9_agree_117 : decode cX9_agree 117 = .ok (.getfield 85, 3) := by decide +kernel
theorem dX9_agree_120 : decode cX9_agree 120 = .ok (.iload 4, 2) := by decide +kernel
theorem dX9_agree_122 : decode cX9_agree 122 = .ok (.iaload, 1) := by decide +kernel
theorem dX9_agree_123 : decode cX9_agree 123 = .ok (.iload 6, 2) := by decide +kernel
theorem dX9_agree_125 : decode cX9_agree 125 = .ok (.iadd, 1) := by decide +kernel
theorem dX9_agree_126 : decode cX9_agree 126 = .ok (.aload_n 0, 1) := by decide +kernel
theorem dX9_agree_127 : decode cX9_agree 127 = .ok (.getfield 85, 3) := by decide +kernel
theorem dX9_agree_130 : decode cX9_agree 130 = .ok (.iload 5, 2) := by decide +kernel
theorem dX9_agree_132 : decode cX9_agree 132 = .ok (.iaload, 1) := by decide +kernel
theorem dX9_agree_133 : decode cX9_agree 133 = .ok (.if_icmp .le 22, 3) := by decide +kernel
theorem dX9_agree_136 : decode cX9_agree 136 = .ok (.aload_n 0, 1) := by decide +kernel
theorem dX9_agree_137 : decode cX9_agree 137 = .ok (.getfield 85, 3) := by decide +kernel
theorem dX9_agree_140 : decode cX9_agree 140 = .ok (.iload 5, 2) := by decide +kernel
theorem dX9_agree_142 : decode cX9_agree 142 = .ok (.aload_n 0, 1) := by decide +kernel
theorem dX9_agree_143 : decode cX9_agree 143 = .ok (.getfield 85, 3) := by decide +kernel
theorem dX9_agree_146 : decode cX9_agree 146 = .ok (.iload 4, 2) := by decide +kernel
theorem dX9_agree_148 : decode cX9_agree 148 = .ok (.iaload, 1) := by decide +kernel
theorem dX9_agree_149 : decode cX9_agree 149 = .ok (.iload 6, 2) := by decide +kernel
theorem dX9_agree_151 : decode cX9_agree 151 = .ok (.iadd, 1) := by decide +kernel
theorem dX9_agree_152 : decode cX9_agree 152 = .ok (.iastore, 1) := by decide +kernel
theorem dX9_agree_153 : decode cX9_agree 153 = .ok (.iconst 1, 1) := by decide +kernel
theorem dX9_agree_154 : decode cX9_agree 154 = .ok (.istore_n 2, 1) := by decide +kernel
theorem dX9_agree_155 : decode cX9_agree 155 = .ok (.aload_n 0, 1) := by decide +kernel
theorem dX9_agree_156 : decode cX9_agree 156 = .ok (.getfield 88, 3) := by decide +kernel
theorem dX9_agree_159 : decode cX9_agree 159 = .ok (.iload 5, 2) := by decide +kernel
theorem dX9_agree_161 : decode cX9_agree 161 = .ok (.iaload, 1) := by decide +kernel
theorem dX9_agree_162 : decode cX9_agree 162 = .ok (.iload 6, 2) := by decide +kernel
theorem dX9_agree_164 : decode cX9_agree 164 = .ok (.isub, 1) := by decide +kernel
theorem dX9_agree_165 : decode cX9_agree 165 = .ok (.aload_n 0, 1) := by decide +kernel
theorem dX9_agree_166 : decode cX9_agree 166 = .ok (.getfield 88, 3) := by decide +kernel
theorem dX9_agree_169 : decode cX9_agree 169 = .ok (.iload 4, 2) := by decide +kernel
theorem dX9_agree_171 : decode cX9_agree 171 = .ok (.iaload, 1) := by decide +kernel
theorem dX9_agree_172 : decode cX9_agree 172 = .ok (.if_icmp .ge 22, 3) := by decide +kernel
theorem dX9_agree_175 : decode cX9_agree 175 = .ok (.aload_n 0, 1) := by decide +kernel
theorem dX9_agree_176 : decode cX9_agree 176 = .ok (.getfield 88, 3) := by decide +kernel
theorem dX9_agree_179 : decode cX9_agree 179 = .ok (.iload 4, 2) := by decide +kernel
theorem dX9_agree_181 : decode cX9_agree 181 = .ok (.aload_n 0, 1) := by decide +kernel
theorem dX9_agree_182 : decode cX9_agree 182 = .ok (.getfield 88, 3) := by decide +kernel
theorem dX9_agree_185 : decode cX9_agree 185 = .ok (.iload 5, 2) := by decide +kernel
theorem dX9_agree_187 : decode cX9_agree 187 = .ok (.iaload, 1) := by decide +kernel
theorem dX9_agree_188 : decode cX9_agree 188 = .ok (.iload 6, 2) := by decide +kernel
theorem dX9_agree_190 : decode cX9_agree 190 = .ok (.isub, 1) := by decide +kernel
theorem dX9_agree_191 : decode cX9_agree 191 = .ok (.iastore, 1) := by decide +kernel
theorem dX9_agree_192 : decode cX9_agree 192 = .ok (.iconst 1, 1) := by decide +kernel
theorem dX9_agree_193 : decode cX9_agree 193 = .ok (.istore_n 2, 1) := by decide +kernel
theorem dX9_agree_194 : decode cX9_agree 194 = .ok (.aload_n 0, 1) := by decide +kernel
theorem dX9_agree_195 : decode cX9_agree 195 = .ok (.getfield 85, 3) := by decide +kernel
theorem dX9_agree_198 : decode cX9_agree 198 = .ok (.iload 5, 2) := by decide +kernel
theorem dX9_agree_200 : decode cX9_agree 200 = .ok (.iaload, 1) := by decide +kernel
theorem dX9_agree_201 : decode cX9_agree 201 = .ok (.aload_n 0, 1) := by decide +kernel
theorem dX9_agree_202 : decode cX9_agree 202 = .ok (.getfield 88, 3) := by decide +kernel
theorem dX9_agree_205 : decode cX9_agree 205 = .ok (.iload 5, 2) := by decide +kernel
theorem dX9_agree_207 : decode cX9_agree 207 = .ok (.iaload, 1) := by decide +kernel
theorem dX9_agree_208 : decode cX9_agree 208 = .ok (.if_icmp .gt 20, 3) := by decide +kernel
theorem dX9_agree_211 : decode cX9_agree 211 = .ok (.aload_n 0, 1) := by decide +kernel
theorem dX9_agree_212 : decode cX9_agree 212 = .ok (.getfield 85, 3) := by decide +kernel
theorem dX9_agree_215 : decode cX9_agree 215 = .ok (.iload 4, 2) := by decide +kernel
theorem dX9_agree_217 : decode cX9_agree 217 = .ok (.iaload, 1) := by decide +kernel
theorem dX9_agree_218 : decode cX9_agree 218 = .ok (.aload_n 0, 1) := by decide +kernel
theorem dX9_agree_219 : decode cX9_agree 219 = .ok (.getfield 88, 3) := by decide +kernel
theorem dX9_agree_222 : decode cX9_agree 222 = .ok (.iload 4, 2) := by decide +kernel
theorem dX9_agree_224 : decode cX9_agree 224 = .ok (.iaload, 1) := by decide +kernel
theorem dX9_agree_225 : decode cX9_agree 225 = .ok (.if_icmp .le 5, 3) := by decide +kernel
theorem dX9_agree_228 : decode cX9_agree 228 = .ok (.iconst 0, 1) := by decide +kernel
theorem dX9_agree_229 : decode cX9_agree 229 = .ok (.ireturn, 1) := by decide +kernel
theorem dX9_agree_230 : decode cX9_agree 230 = .ok (.iinc 3 1, 3) := by decide +kernel
theorem dX9_agree_233 : decode cX9_agree 233 = .ok (.goto (-183), 3) := by decide +kernel
theorem dX9_agree_236 : decode cX9_agree 236 = .ok (.goto (-194), 3) := by decide +kernel
theorem dX9_agree_239 : decode cX9_agree 239 = .ok (.iconst 1, 1) := by decide +kernel
theorem dX9_agree_240 : decode cX9_agree 240 = .ok (.ireturn, 1) := by decide +kernel
theorem dX9_dated_0 : decode cX9_dated 0 = .ok (.aload_n 0, 1) := by decide +kernel
theorem dX9_dated_1 : decode cX9_dated 1 = .ok (.iload_n 1, 1) := by decide +kernel
theorem dX9_dated_2 : decode cX9_dated 2 = .ok (.invokevirtual 117, 3) := by decide +kernel
theorem dX9_dated_5 : decode cX9_dated 5 = .ok (.ifCond .eq 42, 3) := by decide +kernel
theorem dX9_dated_8 : decode cX9_dated 8 = .ok (.iload_n 2, 1) := by decide +kernel
theorem dX9_dated_9 : decode cX9_dated 9 = .ok (.iconst 0, 1) := by decide +kernel
theorem dX9_dated_10 : decode cX9_dated 10 = .ok (.iconst 1, 1) := by decide +kernel
theorem dX9_dated_11 : decode cX9_dated 11 = .ok (.invokestatic 94, 3) := by decide +kernel
theorem dX9_dated_14 : decode cX9_dated 14 = .ok (.ifCond .eq 33, 3) := by decide +kernel
theorem dX9_dated_17 : decode cX9_dated 17 = .ok (.aload_n 0, 1) := by decide +kernel
theorem dX9_dated_18 : decode cX9_dated 18 = .ok (.iconst 0, 1) := by decide +kernel
theorem dX9_dated_19 : decode cX9_dated 19 = .ok (.invokevirtual 360, 3) := by decide +kernel
theorem dX9_dated_22 : decode cX9_dated 22 = .ok (.ifCond .eq 25, 3) := by decide +kernel
theorem dX9_dated_25 : decode cX9_dated 25 = .ok (.iload_n 2, 1) := by decide +kernel
theorem dX9_dated_26 : decode cX9_dated 26 = .ok (.ifCond .ne 12, 3) := by decide +kernel
theorem dX9_dated_29 : decode cX9_dated 29 = .ok (.aload_n 0, 1) := by decide +kernel
theorem dX9_dated_30 : decode cX9_dated 30 = .ok (.getfield 85, 3) := by decide +kernel
theorem dX9_dated_33 : decode cX9_dated 33 = .ok (.iload_n 1, 1) := by decide +kernel
theorem dX9_dated_34 : decode cX9_dated 34 = .ok (.iaload, 1) := by decide +kernel
theorem dX9_dated_35 : decode cX9_dated 35 = .ok (.goto 13, 3) := by decide +kernel
theorem dX9_dated_38 : decode cX9_dated 38 = .ok (.aload_n 0, 1) := by decide +kernel
theorem dX9_dated_39 : decode cX9_dated 39 = .ok (.getfield 88, 3) := by decide +kernel
theorem dX9_dated_42 : decode cX9_dated 42 = .ok (.iload_n 1, 1) := by decide +kernel
theorem dX9_dated_43 : decode cX9_dated 43 = .ok (.iaload, 1) := by decide +kernel
theorem dX9_dated_44 : decode cX9_dated 44 = .ok (.goto 4, 3) := by decide +kernel
theorem dX9_dated_47 : decode cX9_dated 47 = .ok (.iconst (-1), 1) := by decide +kernel
theorem dX9_dated_48 : decode cX9_dated 48 = .ok (.ireturn, 1) := by decide +kernel
theorem dX9_doubt_0 : decode cX9_doubt 0 = .ok (.iload_n 1, 1) := by decide +kernel
theorem dX9_doubt_1 : decode cX9_doubt 1 = .ok (.iconst 0, 1) := by decide +kernel
theorem dX9_doubt_2 : decode cX9_doubt 2 = .ok (.iconst 2, 1) := by decide +kernel
theorem dX9_doubt_3 : decode cX9_doubt 3 = .ok (.invokestatic 94, 3) := by decide +kernel
theorem dX9_doubt_6 : decode cX9_doubt 6 = .ok (.ifCond .ne 5, 3) := by decide +kernel
theorem dX9_doubt_9 : decode cX9_doubt 9 = .ok (.iconst (-1), 1) := by decide +kernel
theorem dX9_doubt_10 : decode cX9_doubt 10 = .ok (.ireturn, 1) := by decide +kernel
theorem dX9_doubt_11 : decode cX9_doubt 11 = .ok (.iconst (-1), 1) := by decide +kernel
theorem dX9_doubt_12 : decode cX9_doubt 12 = .ok (.istore_n 2, 1) := by decide +kernel
theorem dX9_doubt_13 : decode cX9_doubt 13 = .ok (.iconst 0, 1) := by decide +kernel
theorem dX9_doubt_14 : decode cX9_doubt 14 = .ok (.istore_n 3, 1) := by decide +kernel
theorem dX9_doubt_15 : decode cX9_doubt 15 = .ok (.iconst 0, 1) := by decide +kernel
theorem dX9_doubt_16 : decode cX9_doubt 16 = .ok (.istore 4, 2) := by decide +kernel
theorem dX9_doubt_18 : decode cX9_doubt 18 = .ok (.iload 4, 2) := by decide +kernel
theorem dX9_doubt_20 : decode cX9_doubt 20 = .ok (.iconst 1, 1) := by decide +kernel
theorem dX9_doubt_21 : decode cX9_doubt 21 = .ok (.aload_n 0, 1) := by decide +kernel
theorem dX9_doubt_22 : decode cX9_doubt 22 = .ok (.getfield 20, 3) := by decide +kernel
theorem dX9_doubt_25 : decode cX9_doubt 25 = .ok (.sipush 135, 3) := by decide +kernel
theorem dX9_doubt_28 : decode cX9_doubt 28 = .ok (.iaload, 1) := by decide +kernel
theorem dX9_doubt_29 : decode cX9_doubt 29 = .ok (.ishl, 1) := by decide +kernel
theorem dX9_doubt_30 : decode cX9_doubt 30 = .ok (.if_icmp .ge 63, 3) := by decide +kernel
theorem dX9_doubt_33 : decode cX9_doubt 33 = .ok (.iload_n 2, 1) := by decide +kernel
theorem dX9_doubt_34 : decode cX9_doubt 34 = .ok (.iconst (-1), 1) := by decide +kernel
theorem dX9_doubt_35 : decode cX9_doubt 35 = .ok (.if_icmp .eq 15, 3) := by decide +kernel
theorem dX9_doubt_38 : decode cX9_doubt 38 = .ok (.iload 4, 2) := by decide +kernel
theorem dX9_doubt_40 : decode cX9_doubt 40 = .ok (.invokestatic 260, 3) := by decide +kernel
theorem dX9_doubt_43 : decode cX9_doubt 43 = .ok (.iload_n 2, 1) := by decide +kernel
theorem dX9_doubt_44 : decode cX9_doubt 44 = .ok (.invokestatic 260, 3) := by decide +kernel
theorem dX9_doubt_47 : decode cX9_doubt 47 = .ok (.if_icmp .gt 40, 3) := by decide +kernel
theorem dX9_doubt_50 : decode cX9_doubt 50 = .ok (.aload_n 0, 1) := by decide +kernel
theorem dX9_doubt_51 : decode cX9_doubt 51 = .ok (.iload 4, 2) := by decide +kernel
theorem dX9_doubt_53 : decode cX9_doubt 53 = .ok (.invokevirtual 360, 3) := by decide +kernel
theorem dX9_doubt_56 : decode cX9_doubt 56 = .ok (.ifCond .ne 6, 3) := by decide +kernel
theorem dX9_doubt_59 : decode cX9_doubt 59 = .ok (.goto 28, 3) := by decide +kernel
theorem dX9_doubt_62 : decode cX9_doubt 62 = .ok (.iload_n 2, 1) := by decide +kernel
theorem dX9_doubt_63 : decode cX9_doubt 63 = .ok (.iconst (-1), 1) := by decide +kernel
theorem dX9_doubt_64 : decode cX9_doubt 64 = .ok (.if_icmp .eq 15, 3) := by decide +kernel
theorem dX9_doubt_67 : decode cX9_doubt 67 = .ok (.iload 4, 2) := by decide +kernel
theorem dX9_doubt_69 : decode cX9_doubt 69 = .ok (.invokestatic 260, 3) := by decide +kernel
theorem dX9_doubt_72 : decode cX9_doubt 72 = .ok (.iload_n 2, 1) := by decide +kernel
theorem dX9_doubt_73 : decode cX9_doubt 73 = .ok (.invokestatic 260, 3) := by decide +kernel
theorem dX9_doubt_76 : decode cX9_doubt 76 = .ok (.if_icmp .ge 8, 3) := by decide +kernel
theorem dX9_doubt_79 : decode cX9_doubt 79 = .ok (.iload 4, 2) := by decide +kernel
theorem dX9_doubt_81 : decode cX9_doubt 81 = .ok (.istore_n 2, 1) := by decide +kernel
theorem dX9_doubt_82 : decode cX9_doubt 82 = .ok (.iconst 0, 1) := by decide +kernel
theorem dX9_doubt_83 : decode cX9_doubt 83 = .ok (.istore_n 3, 1) := by decide +kernel
theorem dX9_doubt_84 : decode cX9_doubt 84 = .ok (.iinc 3 1, 3) := by decide +kernel
theorem dX9_doubt_87 : decode cX9_doubt 87 = .ok (.iinc 4 1, 3) := by decide +kernel
theorem dX9_doubt_90 : decode cX9_doubt 90 = .ok (.goto (-72), 3) := by decide +kernel
theorem dX9_doubt_93 : decode cX9_doubt 93 = .ok (.iload_n 1, 1) := by decide +kernel
theorem dX9_doubt_94 : decode cX9_doubt 94 = .ok (.ifCond .ne 10, 3) := by decide +kernel
theorem dX9_doubt_97 : decode cX9_doubt 97 = .ok (.iload_n 2, 1) := by decide +kernel
theorem dX9_doubt_98 : decode cX9_doubt 98 = .ok (.invokestatic 260, 3) := by decide +kernel
theorem dX9_doubt_101 : decode cX9_doubt 101 = .ok (.goto 13, 3) := by decide +kernel
theorem dX9_doubt_104 : decode cX9_doubt 104 = .ok (.iload_n 1, 1) := by decide +kernel
theorem dX9_doubt_105 : decode cX9_doubt 105 = .ok (.iconst 1, 1) := by decide +kernel
theorem dX9_doubt_106 : decode cX9_doubt 106 = .ok (.if_icmp .ne 7, 3) := by decide +kernel
theorem dX9_doubt_109 : decode cX9_doubt 109 = .ok (.iload_n 2, 1) := by decide +kernel
theorem dX9_doubt_110 : decode cX9_doubt 110 = .ok (.goto 4, 3) := by decide +kernel
theorem dX9_doubt_113 : decode cX9_doubt 113 = .ok (.iload_n 3, 1) := by decide +kernel
theorem dX9_doubt_114 : decode cX9_doubt 114 = .ok (.ireturn, 1) := by decide +kernel
theorem dX9_claim_0 : decode cX9_claim 0 = .ok (.iload_n 2, 1) := by decide +kernel
theorem dX9_claim_1 : decode cX9_claim 1 = .ok (.iconst 0, 1) := by decide +kernel
theorem dX9_claim_2 : decode cX9_claim 2 = .ok (.sipush 2000, 3) := by decide +kernel
theorem dX9_claim_5 : decode cX9_claim 5 = .ok (.invokestatic 94, 3) := by decide +kernel
theorem dX9_claim_8 : decode cX9_claim 8 = .ok (.ifCond .eq 12, 3) := by decide +kernel
theorem dX9_claim_11 : decode cX9_claim 11 = .ok (.iload_n 3, 1) := by decide +kernel
theorem dX9_claim_12 : decode cX9_claim 12 = .ok (.iconst 0, 1) := by decide +kernel
theorem dX9_claim_13 : decode cX9_claim 13 = .ok (.iconst 3, 1) := by decide +kernel
theorem dX9_claim_14 : decode cX9_claim 14 = .ok (.invokestatic 94, 3) := by decide +kernel
theorem dX9_claim_17 : decode cX9_claim 17 = .ok (.ifCond .ne 9, 3) := by decide +kernel
theorem dX9_claim_20 : decode cX9_claim 20 = .ok (.aload_n 0, 1) := by decide +kernel
theorem dX9_claim_21 : decode cX9_claim 21 = .ok (.iconst (-1), 1) := by decide +kernel
theorem dX9_claim_22 : decode cX9_claim 22 = .ok (.invokevirtual 98, 3) := by decide +kernel
theorem dX9_claim_25 : decode cX9_claim 25 = .ok (.ireturn, 1) := by decide +kernel
theorem dX9_claim_26 : decode cX9_claim 26 = .ok (.aload_n 0, 1) := by decide +kernel
theorem dX9_claim_27 : decode cX9_claim 27 = .ok (.iload_n 1, 1) := by decide +kernel
theorem dX9_claim_28 : decode cX9_claim 28 = .ok (.invokevirtual 117, 3) := by decide +kernel
theorem dX9_claim_31 : decode cX9_claim 31 = .ok (.ifCond .ne 10, 3) := by decide +kernel
theorem dX9_claim_34 : decode cX9_claim 34 = .ok (.aload_n 0, 1) := by decide +kernel
theorem dX9_claim_35 : decode cX9_claim 35 = .ok (.bipush (-2), 2) := by decide +kernel
theorem dX9_claim_37 : decode cX9_claim 37 = .ok (.invokevirtual 98, 3) := by decide +kernel
theorem dX9_claim_40 : decode cX9_claim 40 = .ok (.ireturn, 1) := by decide +kernel
theorem dX9_claim_41 : decode cX9_claim 41 = .ok (.aload_n 0, 1) := by decide +kernel
theorem dX9_claim_42 : decode cX9_claim 42 = .ok (.getfield 20, 3) := by decide +kernel
theorem dX9_claim_45 : decode cX9_claim 45 = .ok (.sipush 136, 3) := by decide +kernel
theorem dX9_claim_48 : decode cX9_claim 48 = .ok (.iaload, 1) := by decide +kernel
theorem dX9_claim_49 : decode cX9_claim 49 = .ok (.istore 4, 2) := by decide +kernel
theorem dX9_claim_51 : decode cX9_claim 51 = .ok (.iload 4, 2) := by decide +kernel
theorem dX9_claim_53 : decode cX9_claim 53 = .ok (.bipush 10, 2) := by decide +kernel
theorem dX9_claim_55 : decode cX9_claim 55 = .ok (.if_icmp .ne 10, 3) := by decide +kernel
theorem dX9_claim_58 : decode cX9_claim 58 = .ok (.aload_n 0, 1) := by decide +kernel
theorem dX9_claim_59 : decode cX9_claim 59 = .ok (.bipush (-5), 2) := by decide +kernel
theorem dX9_claim_61 : decode cX9_claim 61 = .ok (.invokevirtual 98, 3) := by decide +kernel
theorem dX9_claim_64 : decode cX9_claim 64 = .ok (.ireturn, 1) := by decide +kernel
theorem dX9_claim_65 : decode cX9_claim 65 = .ok (.aload_n 0, 1) := by decide +kernel
theorem dX9_claim_66 : decode cX9_claim 66 = .ok (.getfield 20, 3) := by decide +kernel
theorem dX9_claim_69 : decode cX9_claim 69 = .ok (.bipush 103, 2) := by decide +kernel
theorem dX9_claim_71 : decode cX9_claim 71 = .ok (.iconst 3, 1) := by decide +kernel
theorem dX9_claim_72 : decode cX9_claim 72 = .ok (.iload 4, 2) := by decide +kernel
theorem dX9_claim_74 : decode cX9_claim 74 = .ok (.imul, 1) := by decide +kernel
theorem dX9_claim_75 : decode cX9_claim 75 = .ok (.iadd, 1) := by decide +kernel
theorem dX9_claim_76 : decode cX9_claim 76 = .ok (.iload_n 1, 1) := by decide +kernel
theorem dX9_claim_77 : decode cX9_claim 77 = .ok (.iastore, 1) := by decide +kernel
theorem dX9_claim_78 : decode cX9_claim 78 = .ok (.aload_n 0, 1) := by decide +kernel
theorem dX9_claim_79 : decode cX9_claim 79 = .ok (.getfield 20, 3) := by decide +kernel
theorem dX9_claim_82 : decode cX9_claim 82 = .ok (.bipush 103, 2) := by decide +kernel
theorem dX9_claim_84 : decode cX9_claim 84 = .ok (.iconst 3, 1) := by decide +kernel
theorem dX9_claim_85 : decode cX9_claim 85 = .ok (.iload 4, 2) := by decide +kernel
theorem dX9_claim_87 : decode cX9_claim 87 = .ok (.imul, 1) := by decide +kernel
theorem dX9_claim_88 : decode cX9_claim 88 = .ok (.iadd, 1) := by decide +kernel
theorem dX9_claim_89 : decode cX9_claim 89 = .ok (.iconst 1, 1) := by decide +kernel
theorem dX9_claim_90 : decode cX9_claim 90 = .ok (.iadd, 1) := by decide +kernel
theorem dX9_claim_91 : decode cX9_claim 91 = .ok (.iload_n 2, 1) := by decide +kernel
theorem dX9_claim_92 : decode cX9_claim 92 = .ok (.iastore, 1) := by decide +kernel
theorem dX9_claim_93 : decode cX9_claim 93 = .ok (.aload_n 0, 1) := by decide +kernel
theorem dX9_claim_94 : decode cX9_claim 94 = .ok (.getfield 20, 3) := by decide +kernel
theorem dX9_claim_97 : decode cX9_claim 97 = .ok (.bipush 103, 2) := by decide +kernel
theorem dX9_claim_99 : decode cX9_claim 99 = .ok (.iconst 3, 1) := by decide +kernel
theorem dX9_claim_100 : decode cX9_claim 100 = .ok (.iload 4, 2) := by decide +kernel
theorem dX9_claim_102 : decode cX9_claim 102 = .ok (.imul, 1) := by decide +kernel
theorem dX9_claim_103 : decode cX9_claim 103 = .ok (.iadd, 1) := by decide +kernel
theorem dX9_claim_104 : decode cX9_claim 104 = .ok (.iconst 2, 1) := by decide +kernel
theorem dX9_claim_105 : decode cX9_claim 105 = .ok (.iadd, 1) := by decide +kernel
theorem dX9_claim_106 : decode cX9_claim 106 = .ok (.iload_n 3, 1) := by decide +kernel
theorem dX9_claim_107 : decode cX9_claim 107 = .ok (.iastore, 1) := by decide +kernel
theorem dX9_claim_108 : decode cX9_claim 108 = .ok (.aload_n 0, 1) := by decide +kernel
theorem dX9_claim_109 : decode cX9_claim 109 = .ok (.getfield 20, 3) := by decide +kernel
theorem dX9_claim_112 : decode cX9_claim 112 = .ok (.sipush 136, 3) := by decide +kernel
theorem dX9_claim_115 : decode cX9_claim 115 = .ok (.dup2, 1) := by decide +kernel
theorem dX9_claim_116 : decode cX9_claim 116 = .ok (.iaload, 1) := by decide +kernel
theorem dX9_claim_117 : decode cX9_claim 117 = .ok (.iconst 1, 1) := by decide +kernel
theorem dX9_claim_118 : decode cX9_claim 118 = .ok (.iadd, 1) := by decide +kernel
theorem dX9_claim_119 : decode cX9_claim 119 = .ok (.iastore, 1) := by decide +kernel
theorem dX9_claim_120 : decode cX9_claim 120 = .ok (.aload_n 0, 1) := by decide +kernel
theorem dX9_claim_121 : decode cX9_claim 121 = .ok (.iload 4, 2) := by decide +kernel
theorem dX9_claim_123 : decode cX9_claim 123 = .ok (.iconst 1, 1) := by decide +kernel
theorem dX9_claim_124 : decode cX9_claim 124 = .ok (.iadd, 1) := by decide +kernel
theorem dX9_claim_125 : decode cX9_claim 125 = .ok (.invokevirtual 102, 3) := by decide +kernel
theorem dX9_claim_128 : decode cX9_claim 128 = .ok (.ireturn, 1) := by decide +kernel
theorem dX9_clear_0 : decode cX9_clear 0 = .ok (.aload_n 0, 1) := by decide +kernel
theorem dX9_clear_1 : decode cX9_clear 1 = .ok (.getfield 20, 3) := by decide +kernel
theorem dX9_clear_4 : decode cX9_clear 4 = .ok (.sipush 136, 3) := by decide +kernel
theorem dX9_clear_7 : decode cX9_clear 7 = .ok (.iaload, 1) := by decide +kernel
theorem dX9_clear_8 : decode cX9_clear 8 = .ok (.istore_n 1, 1) := by decide +kernel
theorem dX9_clear_9 : decode cX9_clear 9 = .ok (.aload_n 0, 1) := by decide +kernel
theorem dX9_clear_10 : decode cX9_clear 10 = .ok (.getfield 20, 3) := by decide +kernel
theorem dX9_clear_13 : decode cX9_clear 13 = .ok (.sipush 136, 3) := by decide +kernel
theorem dX9_clear_16 : decode cX9_clear 16 = .ok (.iconst 0, 1) := by decide +kernel
theorem dX9_clear_17 : decode cX9_clear 17 = .ok (.iastore, 1) := by decide +kernel
theorem dX9_clear_18 : decode cX9_clear 18 = .ok (.aload_n 0, 1) := by decide +kernel
theorem dX9_clear_19 : decode cX9_clear 19 = .ok (.dup, 1) := by decide +kernel
theorem dX9_clear_20 : decode cX9_clear 20 = .ok (.getfield 11, 3) := by decide +kernel
theorem dX9_clear_23 : decode cX9_clear 23 = .ok (.iconst 1, 1) := by decide +kernel
theorem dX9_clear_24 : decode cX9_clear 24 = .ok (.iadd, 1) := by decide +kernel
theorem dX9_clear_25 : decode cX9_clear 25 = .ok (.putfield 11, 3) := by decide +kernel
theorem dX9_clear_28 : decode cX9_clear 28 = .ok (.iload_n 1, 1) := by decide +kernel
theorem dX9_clear_29 : decode cX9_clear 29 = .ok (.ireturn, 1) := by decide +kernel
theorem dX9_wrongBut_0 : decode cX9_wrongBut 0 = .ok (.iconst 0, 1) := by decide +kernel
theorem dX9_wrongBut_1 : decode cX9_wrongBut 1 = .ok (.istore_n 2, 1) := by decide +kernel
theorem dX9_wrongBut_2 : decode cX9_wrongBut 2 = .ok (.iconst 4, 1) := by decide +kernel
theorem dX9_wrongBut_3 : decode cX9_wrongBut 3 = .ok (.istore_n 3, 1) := by decide +kernel
theorem dX9_wrongBut_4 : decode cX9_wrongBut 4 = .ok (.ldc 146, 2) := by decide +kernel
theorem dX9_wrongBut_6 : decode cX9_wrongBut 6 = .ok (.istore 4, 2) := by decide +kernel
theorem dX9_wrongBut_8 : decode cX9_wrongBut 8 = .ok (.iconst 0, 1) := by decide +kernel
theorem dX9_wrongBut_9 : decode cX9_wrongBut 9 = .ok (.istore 5, 2) := by decide +kernel
theorem dX9_wrongBut_11 : decode cX9_wrongBut 11 = .ok (.iload 5, 2) := by decide +kernel
theorem dX9_wrongBut_13 : decode cX9_wrongBut 13 = .ok (.aload_n 0, 1) := by decide +kernel
theorem dX9_wrongBut_14 : decode cX9_wrongBut 14 = .ok (.getfield 20, 3) := by decide +kernel
theorem dX9_wrongBut_17 : decode cX9_wrongBut 17 = .ok (.sipush 136, 3) := by decide +kernel
theorem dX9_wrongBut_20 : decode cX9_wrongBut 20 = .ok (.iaload, 1) := by decide +kernel
theorem dX9_wrongBut_21 : decode cX9_wrongBut 21 = .ok (.if_icmp .ge 152, 3) := by decide +kernel
theorem dX9_wrongBut_24 : decode cX9_wrongBut 24 = .ok (.iload 5, 2) := by decide +kernel
theorem dX9_wrongBut_26 : decode cX9_wrongBut 26 = .ok (.iload_n 1, 1) := by decide +kernel
theorem dX9_wrongBut_27 : decode cX9_wrongBut 27 = .ok (.if_icmp .ne 6, 3) := by decide +kernel
theorem dX9_wrongBut_30 : decode cX9_wrongBut 30 = .ok (.goto 137, 3) := by decide +kernel
theorem dX9_wrongBut_33 : decode cX9_wrongBut 33 = .ok (.aload_n 0, 1) := by decide +kernel
theorem dX9_wrongBut_34 : decode cX9_wrongBut 34 = .ok (.getfield 20, 3) := by decide +kernel
theorem dX9_wrongBut_37 : decode cX9_wrongBut 37 = .ok (.bipush 103, 2) := by decide +kernel
theorem dX9_wrongBut_39 : decode cX9_wrongBut 39 = .ok (.iconst 3, 1) := by decide +kernel
theorem dX9_wrongBut_40 : decode cX9_wrongBut 40 = .ok (.iload 5, 2) := by decide +kernel
theorem dX9_wrongBut_42 : decode cX9_wrongBut 42 = .ok (.imul, 1) := by decide +kernel
theorem dX9_wrongBut_43 : decode cX9_wrongBut 43 = .ok (.iadd, 1) := by decide +kernel
theorem dX9_wrongBut_44 : decode cX9_wrongBut 44 = .ok (.iaload, 1) := by decide +kernel
theorem dX9_wrongBut_45 : decode cX9_wrongBut 45 = .ok (.istore 6, 2) := by decide +kernel
theorem dX9_wrongBut_47 : decode cX9_wrongBut 47 = .ok (.aload_n 0, 1) := by decide +kernel
theorem dX9_wrongBut_48 : decode cX9_wrongBut 48 = .ok (.getfield 20, 3) := by decide +kernel
theorem dX9_wrongBut_51 : decode cX9_wrongBut 51 = .ok (.bipush 103, 2) := by decide +kernel
theorem dX9_wrongBut_53 : decode cX9_wrongBut 53 = .ok (.iconst 3, 1) := by decide +kernel
theorem dX9_wrongBut_54 : decode cX9_wrongBut 54 = .ok (.iload 5, 2) := by decide +kernel
theorem dX9_wrongBut_56 : decode cX9_wrongBut 56 = .ok (.imul, 1) := by decide +kernel
theorem dX9_wrongBut_57 : decode cX9_wrongBut 57 = .ok (.iadd, 1) := by decide +kernel
theorem dX9_wrongBut_58 : decode cX9_wrongBut 58 = .ok (.iconst 1, 1) := by decide +kernel
theorem dX9_wrongBut_59 : decode cX9_wrongBut 59 = .ok (.iadd, 1) := by decide +kernel
theorem dX9_wrongBut_60 : decode cX9_wrongBut 60 = .ok (.iaload, 1) := by decide +kernel
theorem dX9_wrongBut_61 : decode cX9_wrongBut 61 = .ok (.istore 7, 2) := by decide +kernel
theorem dX9_wrongBut_63 : decode cX9_wrongBut 63 = .ok (.aload_n 0, 1) := by decide +kernel
theorem dX9_wrongBut_64 : decode cX9_wrongBut 64 = .ok (.getfield 20, 3) := by decide +kernel
theorem dX9_wrongBut_67 : decode cX9_wrongBut 67 = .ok (.bipush 103, 2) := by decide +kernel
theorem dX9_wrongBut_69 : decode cX9_wrongBut 69 = .ok (.iconst 3, 1) := by decide +kernel
theorem dX9_wrongBut_70 : decode cX9_wrongBut 70 = .ok (.iload 5, 2) := by decide +kernel
theorem dX9_wrongBut_72 : decode cX9_wrongBut 72 = .ok (.imul, 1) := by decide +kernel
theorem dX9_wrongBut_73 : decode cX9_wrongBut 73 = .ok (.iadd, 1) := by decide +kernel
theorem dX9_wrongBut_74 : decode cX9_wrongBut 74 = .ok (.iconst 2, 1) := by decide +kernel
theorem dX9_wrongBut_75 : decode cX9_wrongBut 75 = .ok (.iadd, 1) := by decide +kernel
theorem dX9_wrongBut_76 : decode cX9_wrongBut 76 = .ok (.iaload, 1) := by decide +kernel
theorem dX9_wrongBut_77 : decode cX9_wrongBut 77 = .ok (.istore 8, 2) := by decide +kernel
theorem dX9_wrongBut_79 : decode cX9_wrongBut 79 = .ok (.iload_n 2, 1) := by decide +kernel
theorem dX9_wrongBut_80 : decode cX9_wrongBut 80 = .ok (.iload 6, 2) := by decide +kernel
theorem dX9_wrongBut_82 : decode cX9_wrongBut 82 = .ok (.invokestatic 269, 3) := by decide +kernel
theorem dX9_wrongBut_85 : decode cX9_wrongBut 85 = .ok (.ifCond .ne 65, 3) := by decide +kernel
theorem dX9_wrongBut_88 : decode cX9_wrongBut 88 = .ok (.aload_n 0, 1) := by decide +kernel
theorem dX9_wrongBut_89 : decode cX9_wrongBut 89 = .ok (.getfield 61, 3) := by decide +kernel
theorem dX9_wrongBut_92 : decode cX9_wrongBut 92 = .ok (.iload 6, 2) := by decide +kernel
theorem dX9_wrongBut_94 : decode cX9_wrongBut 94 = .ok (.iaload, 1) := by decide +kernel
theorem dX9_wrongBut_95 : decode cX9_wrongBut 95 = .ok (.iload 8, 2) := by decide +kernel
theorem dX9_wrongBut_97 : decode cX9_wrongBut 97 = .ok (.invokestatic 269, 3) := by decide +kernel
theorem dX9_wrongBut_100 : decode cX9_wrongBut 100 = .ok (.ifCond .eq 50, 3) := by decide +kernel
theorem dX9_wrongBut_103 : decode cX9_wrongBut 103 = .ok (.aload_n 0, 1) := by decide +kernel
theorem dX9_wrongBut_104 : decode cX9_wrongBut 104 = .ok (.iload_n 3, 1) := by decide +kernel
theorem dX9_wrongBut_105 : decode cX9_wrongBut 105 = .ok (.iload 8, 2) := by decide +kernel
theorem dX9_wrongBut_107 : decode cX9_wrongBut 107 = .ok (.invokevirtual 288, 3) := by decide +kernel
theorem dX9_wrongBut_110 : decode cX9_wrongBut 110 = .ok (.ifCond .eq 40, 3) := by decide +kernel
theorem dX9_wrongBut_113 : decode cX9_wrongBut 113 = .ok (.iload 7, 2) := by decide +kernel
theorem dX9_wrongBut_115 : decode cX9_wrongBut 115 = .ok (.aload_n 0, 1) := by decide +kernel
theorem dX9_wrongBut_116 : decode cX9_wrongBut 116 = .ok (.iload 6, 2) := by decide +kernel
theorem dX9_wrongBut_118 : decode cX9_wrongBut 118 = .ok (.iconst 0, 1) := by decide +kernel
theorem dX9_wrongBut_119 : decode cX9_wrongBut 119 = .ok (.invokevirtual 121, 3) := by decide +kernel
theorem dX9_wrongBut_122 : decode cX9_wrongBut 122 = .ok (.aload_n 0, 1) := by decide +kernel
theorem dX9_wrongBut_123 : decode cX9_wrongBut 123 = .ok (.iload 6, 2) := by decide +kernel
theorem dX9_wrongBut_125 : decode cX9_wrongBut 125 = .ok (.iconst 1, 1) := by decide +kernel
theorem dX9_wrongBut_126 : decode cX9_wrongBut 126 = .ok (.invokevirtual 121, 3) := by decide +kernel
theorem dX9_wrongBut_129 : decode cX9_wrongBut 129 = .ok (.invokestatic 94, 3) := by decide +kernel
theorem dX9_wrongBut_132 : decode cX9_wrongBut 132 = .ok (.ifCond .eq 18, 3) := by decide +kernel
theorem dX9_wrongBut_135 : decode cX9_wrongBut 135 = .ok (.iload 7, 2) := by decide +kernel
theorem dX9_wrongBut_137 : decode cX9_wrongBut 137 = .ok (.iload 4, 2) := by decide +kernel
theorem dX9_wrongBut_139 : decode cX9_wrongBut 139 = .ok (.aload_n 0, 1) := by decide +kernel
theorem dX9_wrongBut_140 : decode cX9_wrongBut 140 = .ok (.getfield 58, 3) := by decide +kernel
theorem dX9_wrongBut_143 : decode cX9_wrongBut 143 = .ok (.iload 6, 2) := by decide +kernel
theorem dX9_wrongBut_145 : decode cX9_wrongBut 145 = .ok (.iaload, 1) := by decide +kernel
theorem dX9_wrongBut_146 : decode cX9_wrongBut 146 = .ok (.isub, 1) := by decide +kernel
theorem dX9_wrongBut_147 : decode cX9_wrongBut 147 = .ok (.if_icmp .le 6, 3) := by decide +kernel
theorem dX9_wrongBut_150 : decode cX9_wrongBut 150 = .ok (.iload 5, 2) := by decide +kernel
theorem dX9_wrongBut_152 : decode cX9_wrongBut 152 = .ok (.ireturn, 1) := by decide +kernel
theorem dX9_wrongBut_153 : decode cX9_wrongBut 153 = .ok (.iload_n 2, 1) := by decide +kernel
theorem dX9_wrongBut_154 : decode cX9_wrongBut 154 = .ok (.iconst 1, 1) := by decide +kernel
theorem dX9_wrongBut_155 : decode cX9_wrongBut 155 = .ok (.iload 6, 2) := by decide +kernel
theorem dX9_wrongBut_157 : decode cX9_wrongBut 157 = .ok (.ishl, 1) := by decide +kernel
theorem dX9_wrongBut_158 : decode cX9_wrongBut 158 = .ok (.ior, 1) := by decide +kernel
theorem dX9_wrongBut_159 : decode cX9_wrongBut 159 = .ok (.istore_n 2, 1) := by decide +kernel
theorem dX9_wrongBut_160 : decode cX9_wrongBut 160 = .ok (.iload 8, 2) := by decide +kernel
theorem dX9_wrongBut_162 : decode cX9_wrongBut 162 = .ok (.istore_n 3, 1) := by decide +kernel
theorem dX9_wrongBut_163 : decode cX9_wrongBut 163 = .ok (.iload 7, 2) := by decide +kernel
theorem dX9_wrongBut_165 : decode cX9_wrongBut 165 = .ok (.istore 4, 2) := by decide +kernel
theorem dX9_wrongBut_167 : decode cX9_wrongBut 167 = .ok (.iinc 5 1, 3) := by decide +kernel
theorem dX9_wrongBut_170 : decode cX9_wrongBut 170 = .ok (.goto (-159), 3) := by decide +kernel
theorem dX9_wrongBut_173 : decode cX9_wrongBut 173 = .ok (.iconst (-1), 1) := by decide +kernel
theorem dX9_wrongBut_174 : decode cX9_wrongBut 174 = .ok (.ireturn, 1) := by decide +kernel
theorem dX9_wrong_0 : decode cX9_wrong 0 = .ok (.aload_n 0, 1) := by decide +kernel
theorem dX9_wrong_1 : decode cX9_wrong 1 = .ok (.invokevirtual 279, 3) := by decide +kernel
theorem dX9_wrong_4 : decode cX9_wrong 4 = .ok (.aload_n 0, 1) := by decide +kernel
theorem dX9_wrong_5 : decode cX9_wrong 5 = .ok (.iconst (-1), 1) := by decide +kernel
theorem dX9_wrong_6 : decode cX9_wrong 6 = .ok (.invokevirtual 363, 3) := by decide +kernel
theorem dX9_wrong_9 : decode cX9_wrong 9 = .ok (.ireturn, 1) := by decide +kernel
theorem dX9_liars_0 : decode cX9_liars 0 = .ok (.aload_n 0, 1) := by decide +kernel
theorem dX9_liars_1 : decode cX9_liars 1 = .ok (.invokevirtual 279, 3) := by decide +kernel
theorem dX9_liars_4 : decode cX9_liars 4 = .ok (.iconst 0, 1) := by decide +kernel
theorem dX9_liars_5 : decode cX9_liars 5 = .ok (.istore_n 1, 1) := by decide +kernel
theorem dX9_liars_6 : decode cX9_liars 6 = .ok (.iconst 0, 1) := by decide +kernel
theorem dX9_liars_7 : decode cX9_liars 7 = .ok (.istore_n 2, 1) := by decide +kernel
theorem dX9_liars_8 : decode cX9_liars 8 = .ok (.iload_n 2, 1) := by decide +kernel
theorem dX9_liars_9 : decode cX9_liars 9 = .ok (.aload_n 0, 1) := by decide +kernel
theorem dX9_liars_10 : decode cX9_liars 10 = .ok (.getfield 20, 3) := by decide +kernel
theorem dX9_liars_13 : decode cX9_liars 13 = .ok (.sipush 136, 3) := by decide +kernel
theorem dX9_liars_16 : decode cX9_liars 16 = .ok (.iaload, 1) := by decide +kernel
theorem dX9_liars_17 : decode cX9_liars 17 = .ok (.if_icmp .ge 28, 3) := by decide +kernel
theorem dX9_liars_20 : decode cX9_liars 20 = .ok (.iload_n 1, 1) := by decide +kernel
theorem dX9_liars_21 : decode cX9_liars 21 = .ok (.aload_n 0, 1) := by decide +kernel
theorem dX9_liars_22 : decode cX9_liars 22 = .ok (.iload_n 2, 1) := by decide +kernel
theorem dX9_liars_23 : decode cX9_liars 23 = .ok (.invokevirtual 363, 3) := by decide +kernel
theorem dX9_liars_26 : decode cX9_liars 26 = .ok (.iconst (-1), 1) := by decide +kernel
theorem dX9_liars_27 : decode cX9_liars 27 = .ok (.if_icmp .ne 9, 3) := by decide +kernel
theorem dX9_liars_30 : decode cX9_liars 30 = .ok (.iconst 1, 1) := by decide +kernel
theorem dX9_liars_31 : decode cX9_liars 31 = .ok (.iload_n 2, 1) := by decide +kernel
theorem dX9_liars_32 : decode cX9_liars 32 = .ok (.ishl, 1) := by decide +kernel
theorem dX9_liars_33 : decode cX9_liars 33 = .ok (.goto 4, 3) := by decide +kernel
theorem dX9_liars_36 : decode cX9_liars 36 = .ok (.iconst 0, 1) := by decide +kernel
theorem dX9_liars_37 : decode cX9_liars 37 = .ok (.ior, 1) := by decide +kernel
theorem dX9_liars_38 : decode cX9_liars 38 = .ok (.istore_n 1, 1) := by decide +kernel
theorem dX9_liars_39 : decode cX9_liars 39 = .ok (.iinc 2 1, 3) := by decide +kernel
theorem dX9_liars_42 : decode cX9_liars 42 = .ok (.goto (-34), 3) := by decide +kernel
theorem dX9_liars_45 : decode cX9_liars 45 = .ok (.iload_n 1, 1) := by decide +kernel
theorem dX9_liars_46 : decode cX9_liars 46 = .ok (.ireturn, 1) := by decide +kernel
theorem dX9_draws_0 : decode cX9_draws 0 = .ok (.aload_n 0, 1) := by decide +kernel
theorem dX9_draws_1 : decode cX9_draws 1 = .ok (.ldc2_w 366, 3) := by decide +kernel
theorem dX9_draws_4 : decode cX9_draws 4 = .ok (.aload_n 0, 1) := by decide +kernel
theorem dX9_draws_5 : decode cX9_draws 5 = .ok (.getfield 368, 3) := by decide +kernel
theorem dX9_draws_8 : decode cX9_draws 8 = .ok (.i2l, 1) := by decide +kernel
theorem dX9_draws_9 : decode cX9_draws 9 = .ok (.lmul, 1) := by decide +kernel
theorem dX9_draws_10 : decode cX9_draws 10 = .ok (.ldc2_w 371, 3) := by decide +kernel
theorem dX9_draws_13 : decode cX9_draws 13 = .ok (.ladd, 1) := by decide +kernel
theorem dX9_draws_14 : decode cX9_draws 14 = .ok (.ldc2_w 373, 3) := by decide +kernel
theorem dX9_draws_17 : decode cX9_draws 17 = .ok (.lrem, 1) := by decide +kernel
theorem dX9_draws_18 : decode cX9_draws 18 = .ok (.l2i, 1) := by decide +kernel
theorem dX9_draws_19 : decode cX9_draws 19 = .ok (.putfield 368, 3) := by decide +kernel
theorem dX9_draws_22 : decode cX9_draws 22 = .ok (.aload_n 0, 1) := by decide +kernel
theorem dX9_draws_23 : decode cX9_draws 23 = .ok (.getfield 368, 3) := by decide +kernel
theorem dX9_draws_26 : decode cX9_draws 26 = .ok (.iload_n 1, 1) := by decide +kernel
theorem dX9_draws_27 : decode cX9_draws 27 = .ok (.irem, 1) := by decide +kernel
theorem dX9_draws_28 : decode cX9_draws 28 = .ok (.ireturn, 1) := by decide +kernel
theorem dX9_draw_0 : decode cX9_draw 0 = .ok (.iload_n 1, 1) := by decide +kernel
theorem dX9_draw_1 : decode cX9_draw 1 = .ok (.iconst 0, 1) := by decide +kernel
theorem dX9_draw_2 : decode cX9_draw 2 = .ok (.ldc 146, 2) := by decide +kernel
theorem dX9_draw_4 : decode cX9_draw 4 = .ok (.invokestatic 94, 3) := by decide +kernel
theorem dX9_draw_7 : decode cX9_draw 7 = .ok (.ifCond .ne 9, 3) := by decide +kernel
theorem dX9_draw_10 : decode cX9_draw 10 = .ok (.aload_n 0, 1) := by decide +kernel
theorem dX9_draw_11 : decode cX9_draw 11 = .ok (.iconst (-1), 1) := by decide +kernel
theorem dX9_draw_12 : decode cX9_draw 12 = .ok (.invokevirtual 98, 3) := by decide +kernel
theorem dX9_draw_15 : decode cX9_draw 15 = .ok (.ireturn, 1) := by decide +kernel
theorem dX9_draw_16 : decode cX9_draw 16 = .ok (.aload_n 0, 1) := by decide +kernel
theorem dX9_draw_17 : decode cX9_draw 17 = .ok (.invokevirtual 279, 3) := by decide +kernel
theorem dX9_draw_20 : decode cX9_draw 20 = .ok (.aload_n 0, 1) := by decide +kernel
theorem dX9_draw_21 : decode cX9_draw 21 = .ok (.iload_n 1, 1) := by decide +kernel
theorem dX9_draw_22 : decode cX9_draw 22 = .ok (.putfield 368, 3) := by decide +kernel
theorem dX9_draw_25 : decode cX9_draw 25 = .ok (.aload_n 0, 1) := by decide +kernel
theorem dX9_draw_26 : decode cX9_draw 26 = .ok (.iconst 0, 1) := by decide +kernel
theorem dX9_draw_27 : decode cX9_draw 27 = .ok (.putfield 375, 3) := by decide +kernel
theorem dX9_draw_30 : decode cX9_draw 30 = .ok (.aload_n 0, 1) := by decide +kernel
theorem dX9_draw_31 : decode cX9_draw 31 = .ok (.invokevirtual 303, 3) := by decide +kernel
theorem dX9_draw_34 : decode cX9_draw 34 = .ok (.istore_n 2, 1) := by decide +kernel
theorem dX9_draw_35 : decode cX9_draw 35 = .ok (.aload_n 0, 1) := by decide +kernel
theorem dX9_draw_36 : decode cX9_draw 36 = .ok (.invokevirtual 306, 3) := by decide +kernel
theorem dX9_draw_39 : decode cX9_draw 39 = .ok (.istore_n 3, 1) := by decide +kernel
theorem dX9_draw_40 : decode cX9_draw 40 = .ok (.aload_n 0, 1) := by decide +kernel
theorem dX9_draw_41 : decode cX9_draw 41 = .ok (.invokevirtual 309, 3) := by decide +kernel
theorem dX9_draw_44 : decode cX9_draw 44 = .ok (.istore 4, 2) := by decide +kernel
theorem dX9_draw_46 : decode cX9_draw 46 = .ok (.iconst 1, 1) := by decide +kernel
theorem dX9_draw_47 : decode cX9_draw 47 = .ok (.istore 5, 2) := by decide +kernel
theorem dX9_draw_49 : decode cX9_draw 49 = .ok (.iload 5, 2) := by decide +kernel
theorem dX9_draw_51 : decode cX9_draw 51 = .ok (.ifCond .eq 227, 3) := by decide +kernel
theorem dX9_draw_54 : decode cX9_draw 54 = .ok (.iconst 0, 1) := by decide +kernel
theorem dX9_draw_55 : decode cX9_draw 55 = .ok (.istore 6, 2) := by decide +kernel
theorem dX9_draw_57 : decode cX9_draw 57 = .ok (.iconst 0, 1) := by decide +kernel
theorem dX9_draw_58 : decode cX9_draw 58 = .ok (.istore 7, 2) := by decide +kernel
theorem dX9_draw_60 : decode cX9_draw 60 = .ok (.iload 7, 2) := by decide +kernel
theorem dX9_draw_62 : decode cX9_draw 62 = .ok (.iconst 4, 1) := by decide +kernel
theorem dX9_draw_63 : decode cX9_draw 63 = .ok (.aload_n 0, 1) := by decide +kernel
theorem dX9_draw_64 : decode cX9_draw 64 = .ok (.invokevirtual 105, 3) := by decide +kernel
theorem dX9_draw_67 : decode cX9_draw 67 = .ok (.imul, 1) := by decide +kernel
theorem dX9_draw_68 : decode cX9_draw 68 = .ok (.if_icmp .ge 38, 3) := by decide +kernel
theorem dX9_draw_71 : decode cX9_draw 71 = .ok (.iload 6, 2) := by decide +kernel
theorem dX9_draw_73 : decode cX9_draw 73 = .ok (.aload_n 0, 1) := by decide +kernel
theorem dX9_draw_74 : decode cX9_draw 74 = .ok (.iload 7, 2) := by decide +kernel
theorem dX9_draw_76 : decode cX9_draw 76 = .ok (.iconst 4, 1) := by decide +kernel
theorem dX9_draw_77 : decode cX9_draw 77 = .ok (.idiv, 1) := by decide +kernel
theorem dX9_draw_78 : decode cX9_draw 78 = .ok (.iload 7, 2) := by decide +kernel
theorem dX9_draw_80 : decode cX9_draw 80 = .ok (.iconst 4, 1) := by decide +kernel
theorem dX9_draw_81 : decode cX9_draw 81 = .ok (.irem, 1) := by decide +kernel
theorem dX9_draw_82 : decode cX9_draw 82 = .ok (.iload_n 2, 1) := by decide +kernel
theorem dX9_draw_83 : decode cX9_draw 83 = .ok (.iload_n 3, 1) := by decide +kernel
theorem dX9_draw_84 : decode cX9_draw 84 = .ok (.iload 4, 2) := by decide +kernel
theorem dX9_draw_86 : decode cX9_draw 86 = .ok (.invokevirtual 312, 3) := by decide +kernel
theorem dX9_draw_89 : decode cX9_draw 89 = .ok (.ifCond .eq 7, 3) := by decide +kernel
theorem dX9_draw_92 : decode cX9_draw 92 = .ok (.iconst 1, 1) := by decide +kernel
theorem dX9_draw_93 : decode cX9_draw 93 = .ok (.goto 4, 3) := by decide +kernel
theorem dX9_draw_96 : decode cX9_draw 96 = .ok (.iconst 0, 1) := by decide +kernel
theorem dX9_draw_97 : decode cX9_draw 97 = .ok (.iadd, 1) := by decide +kernel
theorem dX9_draw_98 : decode cX9_draw 98 = .ok (.istore 6, 2) := by decide +kernel
theorem dX9_draw_100 : decode cX9_draw 100 = .ok (.iinc 7 1, 3) := by decide +kernel
theorem dX9_draw_103 : decode cX9_draw 103 = .ok (.goto (-43), 3) := by decide +kernel
theorem dX9_draw_106 : decode cX9_draw 106 = .ok (.iload 6, 2) := by decide +kernel
theorem dX9_draw_108 : decode cX9_draw 108 = .ok (.ifCond .le 7, 3) := by decide +kernel
theorem dX9_draw_111 : decode cX9_draw 111 = .ok (.iconst 1, 1) := by decide +kernel
theorem dX9_draw_112 : decode cX9_draw 112 = .ok (.goto 4, 3) := by decide +kernel
theorem dX9_draw_115 : decode cX9_draw 115 = .ok (.iconst 0, 1) := by decide +kernel
theorem dX9_draw_116 : decode cX9_draw 116 = .ok (.istore 5, 2) := by decide +kernel
theorem dX9_draw_118 : decode cX9_draw 118 = .ok (.iload 5, 2) := by decide +kernel
theorem dX9_draw_120 : decode cX9_draw 120 = .ok (.ifCond .ne 6, 3) := by decide +kernel
theorem dX9_draw_123 : decode cX9_draw 123 = .ok (.goto (-74), 3) := by decide +kernel
theorem dX9_draw_126 : decode cX9_draw 126 = .ok (.aload_n 0, 1) := by decide +kernel
theorem dX9_draw_127 : decode cX9_draw 127 = .ok (.iload 6, 2) := by decide +kernel
theorem dX9_draw_129 : decode cX9_draw 129 = .ok (.invokevirtual 378, 3) := by decide +kernel
theorem dX9_draw_132 : decode cX9_draw 132 = .ok (.istore 7, 2) := by decide +kernel
theorem dX9_draw_134 : decode cX9_draw 134 = .ok (.iconst 0, 1) := by decide +kernel
theorem dX9_draw_135 : decode cX9_draw 135 = .ok (.istore 8, 2) := by decide +kernel
theorem dX9_draw_137 : decode cX9_draw 137 = .ok (.aload_n 0, 1) := by decide +kernel
theorem dX9_draw_138 : decode cX9_draw 138 = .ok (.iload 8, 2) := by decide +kernel
theorem dX9_draw_140 : decode cX9_draw 140 = .ok (.iconst 4, 1) := by decide +kernel
theorem dX9_draw_141 : decode cX9_draw 141 = .ok (.idiv, 1) := by decide +kernel
theorem dX9_draw_142 : decode cX9_draw 142 = .ok (.iload 8, 2) := by decide +kernel
theorem dX9_draw_144 : decode cX9_draw 144 = .ok (.iconst 4, 1) := by decide +kernel
theorem dX9_draw_145 : decode cX9_draw 145 = .ok (.irem, 1) := by decide +kernel
theorem dX9_draw_146 : decode cX9_draw 146 = .ok (.iload_n 2, 1) := by decide +kernel
theorem dX9_draw_147 : decode cX9_draw 147 = .ok (.iload_n 3, 1) := by decide +kernel
theorem dX9_draw_148 : decode cX9_draw 148 = .ok (.iload 4, 2) := by decide +kernel
theorem dX9_draw_150 : decode cX9_draw 150 = .ok (.invokevirtual 312, 3) := by decide +kernel
theorem dX9_draw_153 : decode cX9_draw 153 = .ok (.ifCond .eq 8, 3) := by decide +kernel
theorem dX9_draw_156 : decode cX9_draw 156 = .ok (.iload 7, 2) := by decide +kernel
theorem dX9_draw_158 : decode cX9_draw 158 = .ok (.ifCond .le 38, 3) := by decide +kernel
theorem dX9_draw_161 : decode cX9_draw 161 = .ok (.iload 7, 2) := by decide +kernel
theorem dX9_draw_163 : decode cX9_draw 163 = .ok (.aload_n 0, 1) := by decide +kernel
theorem dX9_draw_164 : decode cX9_draw 164 = .ok (.iload 8, 2) := by decide +kernel
theorem dX9_draw_166 : decode cX9_draw 166 = .ok (.iconst 4, 1) := by decide +kernel
theorem dX9_draw_167 : decode cX9_draw 167 = .ok (.idiv, 1) := by decide +kernel
theorem dX9_draw_168 : decode cX9_draw 168 = .ok (.iload 8, 2) := by decide +kernel
theorem dX9_draw_170 : decode cX9_draw 170 = .ok (.iconst 4, 1) := by decide +kernel
theorem dX9_draw_171 : decode cX9_draw 171 = .ok (.irem, 1) := by decide +kernel
theorem dX9_draw_172 : decode cX9_draw 172 = .ok (.iload_n 2, 1) := by decide +kernel
theorem dX9_draw_173 : decode cX9_draw 173 = .ok (.iload_n 3, 1) := by decide +kernel
theorem dX9_draw_174 : decode cX9_draw 174 = .ok (.iload 4, 2) := by decide +kernel
theorem dX9_draw_176 : decode cX9_draw 176 = .ok (.invokevirtual 312, 3) := by decide +kernel
theorem dX9_draw_179 : decode cX9_draw 179 = .ok (.ifCond .eq 7, 3) := by decide +kernel
theorem dX9_draw_182 : decode cX9_draw 182 = .ok (.iconst 1, 1) := by decide +kernel
theorem dX9_draw_183 : decode cX9_draw 183 = .ok (.goto 4, 3) := by decide +kernel
theorem dX9_draw_186 : decode cX9_draw 186 = .ok (.iconst 0, 1) := by decide +kernel
theorem dX9_draw_187 : decode cX9_draw 187 = .ok (.isub, 1) := by decide +kernel
theorem dX9_draw_188 : decode cX9_draw 188 = .ok (.istore 7, 2) := by decide +kernel
theorem dX9_draw_190 : decode cX9_draw 190 = .ok (.iinc 8 1, 3) := by decide +kernel
theorem dX9_draw_193 : decode cX9_draw 193 = .ok (.goto (-56), 3) := by decide +kernel
theorem dX9_draw_196 : decode cX9_draw 196 = .ok (.aload_n 0, 1) := by decide +kernel
theorem dX9_draw_197 : decode cX9_draw 197 = .ok (.iload 8, 2) := by decide +kernel
theorem dX9_draw_199 : decode cX9_draw 199 = .ok (.iconst 4, 1) := by decide +kernel
theorem dX9_draw_200 : decode cX9_draw 200 = .ok (.idiv, 1) := by decide +kernel
theorem dX9_draw_201 : decode cX9_draw 201 = .ok (.iload_n 3, 1) := by decide +kernel
theorem dX9_draw_202 : decode cX9_draw 202 = .ok (.invokevirtual 297, 3) := by decide +kernel
theorem dX9_draw_205 : decode cX9_draw 205 = .ok (.istore_n 3, 1) := by decide +kernel
theorem dX9_draw_206 : decode cX9_draw 206 = .ok (.iload 8, 2) := by decide +kernel
theorem dX9_draw_208 : decode cX9_draw 208 = .ok (.iconst 4, 1) := by decide +kernel
theorem dX9_draw_209 : decode cX9_draw 209 = .ok (.irem, 1) := by decide +kernel
theorem dX9_draw_210 : decode cX9_draw 210 = .ok (.istore 4, 2) := by decide +kernel
theorem dX9_draw_212 : decode cX9_draw 212 = .ok (.iload_n 2, 1) := by decide +kernel
theorem dX9_draw_213 : decode cX9_draw 213 = .ok (.iconst 1, 1) := by decide +kernel
theorem dX9_draw_214 : decode cX9_draw 214 = .ok (.iload 8, 2) := by decide +kernel
theorem dX9_draw_216 : decode cX9_draw 216 = .ok (.iconst 4, 1) := by decide +kernel
theorem dX9_draw_217 : decode cX9_draw 217 = .ok (.idiv, 1) := by decide +kernel
theorem dX9_draw_218 : decode cX9_draw 218 = .ok (.ishl, 1) := by decide +kernel
theorem dX9_draw_219 : decode cX9_draw 219 = .ok (.ior, 1) := by decide +kernel
theorem dX9_draw_220 : decode cX9_draw 220 = .ok (.istore_n 2, 1) := by decide +kernel
theorem dX9_draw_221 : decode cX9_draw 221 = .ok (.aload_n 0, 1) := by decide +kernel
theorem dX9_draw_222 : decode cX9_draw 222 = .ok (.getfield 91, 3) := by decide +kernel
theorem dX9_draw_225 : decode cX9_draw 225 = .ok (.iconst 3, 1) := by decide +kernel
theorem dX9_draw_226 : decode cX9_draw 226 = .ok (.aload_n 0, 1) := by decide +kernel
theorem dX9_draw_227 : decode cX9_draw 227 = .ok (.getfield 375, 3) := by decide +kernel
theorem dX9_draw_230 : decode cX9_draw 230 = .ok (.imul, 1) := by decide +kernel
theorem dX9_draw_231 : decode cX9_draw 231 = .ok (.iload 8, 2) := by decide +kernel
theorem dX9_draw_233 : decode cX9_draw 233 = .ok (.iconst 4, 1) := by decide +kernel
theorem dX9_draw_234 : decode cX9_draw 234 = .ok (.idiv, 1) := by decide +kernel
theorem dX9_draw_235 : decode cX9_draw 235 = .ok (.iastore, 1) := by decide +kernel
theorem dX9_draw_236 : decode cX9_draw 236 = .ok (.aload_n 0, 1) := by decide +kernel
theorem dX9_draw_237 : decode cX9_draw 237 = .ok (.getfield 91, 3) := by decide +kernel
theorem dX9_draw_240 : decode cX9_draw 240 = .ok (.iconst 3, 1) := by decide +kernel
theorem dX9_draw_241 : decode cX9_draw 241 = .ok (.aload_n 0, 1) := by decide +kernel
theorem dX9_draw_242 : decode cX9_draw 242 = .ok (.getfield 375, 3) := by decide +kernel
theorem dX9_draw_245 : decode cX9_draw 245 = .ok (.imul, 1) := by decide +kernel
theorem dX9_draw_246 : decode cX9_draw 246 = .ok (.iconst 1, 1) := by decide +kernel
theorem dX9_draw_247 : decode cX9_draw 247 = .ok (.iadd, 1) := by decide +kernel
theorem dX9_draw_248 : decode cX9_draw 248 = .ok (.iload_n 3, 1) := by decide +kernel
theorem dX9_draw_249 : decode cX9_draw 249 = .ok (.iastore, 1) := by decide +kernel
theorem dX9_draw_250 : decode cX9_draw 250 = .ok (.aload_n 0, 1) := by decide +kernel
theorem dX9_draw_251 : decode cX9_draw 251 = .ok (.getfield 91, 3) := by decide +kernel
theorem dX9_draw_254 : decode cX9_draw 254 = .ok (.iconst 3, 1) := by decide +kernel
theorem dX9_draw_255 : decode cX9_draw 255 = .ok (.aload_n 0, 1) := by decide +kernel
theorem dX9_draw_256 : decode cX9_draw 256 = .ok (.getfield 375, 3) := by decide +kernel
theorem dX9_draw_259 : decode cX9_draw 259 = .ok (.imul, 1) := by decide +kernel
theorem dX9_draw_260 : decode cX9_draw 260 = .ok (.iconst 2, 1) := by decide +kernel
theorem dX9_draw_261 : decode cX9_draw 261 = .ok (.iadd, 1) := by decide +kernel
theorem dX9_draw_262 : decode cX9_draw 262 = .ok (.iload 4, 2) := by decide +kernel
theorem dX9_draw_264 : decode cX9_draw 264 = .ok (.iastore, 1) := by decide +kernel
theorem dX9_draw_265 : decode cX9_draw 265 = .ok (.aload_n 0, 1) := by decide +kernel
theorem dX9_draw_266 : decode cX9_draw 266 = .ok (.dup, 1) := by decide +kernel
theorem dX9_draw_267 : decode cX9_draw 267 = .ok (.getfield 375, 3) := by decide +kernel
theorem dX9_draw_270 : decode cX9_draw 270 = .ok (.iconst 1, 1) := by decide +kernel
theorem dX9_draw_271 : decode cX9_draw 271 = .ok (.iadd, 1) := by decide +kernel
theorem dX9_draw_272 : decode cX9_draw 272 = .ok (.putfield 375, 3) := by decide +kernel
theorem dX9_draw_275 : decode cX9_draw 275 = .ok (.goto (-226), 3) := by decide +kernel
theorem dX9_draw_278 : decode cX9_draw 278 = .ok (.aload_n 0, 1) := by decide +kernel
theorem dX9_draw_279 : decode cX9_draw 279 = .ok (.aload_n 0, 1) := by decide +kernel
theorem dX9_draw_280 : decode cX9_draw 280 = .ok (.getfield 375, 3) := by decide +kernel
theorem dX9_draw_283 : decode cX9_draw 283 = .ok (.invokevirtual 102, 3) := by decide +kernel
theorem dX9_draw_286 : decode cX9_draw 286 = .ok (.ireturn, 1) := by decide +kernel
theorem dX9_drawn_0 : decode cX9_drawn 0 = .ok (.iload_n 1, 1) := by decide +kernel
theorem dX9_drawn_1 : decode cX9_drawn 1 = .ok (.iconst 0, 1) := by decide +kernel
theorem dX9_drawn_2 : decode cX9_drawn 2 = .ok (.aload_n 0, 1) := by decide +kernel
theorem dX9_drawn_3 : decode cX9_drawn 3 = .ok (.getfield 375, 3) := by decide +kernel
theorem dX9_drawn_6 : decode cX9_drawn 6 = .ok (.iconst 1, 1) := by decide +kernel
theorem dX9_drawn_7 : decode cX9_drawn 7 = .ok (.isub, 1) := by decide +kernel
theorem dX9_drawn_8 : decode cX9_drawn 8 = .ok (.invokestatic 94, 3) := by decide +kernel
theorem dX9_drawn_11 : decode cX9_drawn 11 = .ok (.ifCond .eq 25, 3) := by decide +kernel
theorem dX9_drawn_14 : decode cX9_drawn 14 = .ok (.iload_n 2, 1) := by decide +kernel
theorem dX9_drawn_15 : decode cX9_drawn 15 = .ok (.iconst 0, 1) := by decide +kernel
theorem dX9_drawn_16 : decode cX9_drawn 16 = .ok (.iconst 2, 1) := by decide +kernel
theorem dX9_drawn_17 : decode cX9_drawn 17 = .ok (.invokestatic 94, 3) := by decide +kernel
theorem dX9_drawn_20 : decode cX9_drawn 20 = .ok (.ifCond .eq 16, 3) := by decide +kernel
theorem dX9_drawn_23 : decode cX9_drawn 23 = .ok (.aload_n 0, 1) := by decide +kernel
theorem dX9_drawn_24 : decode cX9_drawn 24 = .ok (.getfield 91, 3) := by decide +kernel
theorem dX9_drawn_27 : decode cX9_drawn 27 = .ok (.iconst 3, 1) := by decide +kernel
theorem dX9_drawn_28 : decode cX9_drawn 28 = .ok (.iload_n 1, 1) := by decide +kernel
theorem dX9_drawn_29 : decode cX9_drawn 29 = .ok (.imul, 1) := by decide +kernel
theorem dX9_drawn_30 : decode cX9_drawn 30 = .ok (.iload_n 2, 1) := by decide +kernel
theorem dX9_drawn_31 : decode cX9_drawn 31 = .ok (.iadd, 1) := by decide +kernel
theorem dX9_drawn_32 : decode cX9_drawn 32 = .ok (.iaload, 1) := by decide +kernel
theorem dX9_drawn_33 : decode cX9_drawn 33 = .ok (.goto 4, 3) := by decide +kernel
theorem dX9_drawn_36 : decode cX9_drawn 36 = .ok (.iconst (-1), 1) := by decide +kernel
theorem dX9_drawn_37 : decode cX9_drawn 37 = .ok (.ireturn, 1) := by decide +kernel
theorem dX9_count_0 : decode cX9_count 0 = .ok (.iload_n 1, 1) := by decide +kernel
theorem dX9_count_1 : decode cX9_count 1 = .ok (.tableswitch 167 0 14 #[75, 80, 89, 98, 107, 116, 121, 121, 121, 130, 137, 145, 154, 154, 154], 75) := by decide +kernel
theorem dX9_count_76 : decode cX9_count 76 = .ok (.aload_n 0, 1) := by decide +kernel
theorem dX9_count_77 : decode cX9_count 77 = .ok (.invokevirtual 105, 3) := by decide +kernel
theorem dX9_count_80 : decode cX9_count 80 = .ok (.ireturn, 1) := by decide +kernel
theorem dX9_count_81 : decode cX9_count 81 = .ok (.aload_n 0, 1) := by decide +kernel
theorem dX9_count_82 : decode cX9_count 82 = .ok (.getfield 20, 3) := by decide +kernel
theorem dX9_count_85 : decode cX9_count 85 = .ok (.sipush 137, 3) := by decide +kernel
theorem dX9_count_88 : decode cX9_count 88 = .ok (.iaload, 1) := by decide +kernel
theorem dX9_count_89 : decode cX9_count 89 = .ok (.ireturn, 1) := by decide +kernel
theorem dX9_count_90 : decode cX9_count 90 = .ok (.aload_n 0, 1) := by decide +kernel
theorem dX9_count_91 : decode cX9_count 91 = .ok (.getfield 20, 3) := by decide +kernel
theorem dX9_count_94 : decode cX9_count 94 = .ok (.sipush 134, 3) := by decide +kernel
theorem dX9_count_97 : decode cX9_count 97 = .ok (.iaload, 1) := by decide +kernel
theorem dX9_count_98 : decode cX9_count 98 = .ok (.ireturn, 1) := by decide +kernel
theorem dX9_count_99 : decode cX9_count 99 = .ok (.aload_n 0, 1) := by decide +kernel
theorem dX9_count_100 : decode cX9_count 100 = .ok (.getfield 20, 3) := by decide +kernel
theorem dX9_count_103 : decode cX9_count 103 = .ok (.sipush 135, 3) := by decide +kernel
theorem dX9_count_106 : decode cX9_count 106 = .ok (.iaload, 1) := by decide +kernel
theorem dX9_count_107 : decode cX9_count 107 = .ok (.ireturn, 1) := by decide +kernel
theorem dX9_count_108 : decode cX9_count 108 = .ok (.aload_n 0, 1) := by decide +kernel
theorem dX9_count_109 : decode cX9_count 109 = .ok (.getfield 20, 3) := by decide +kernel
theorem dX9_count_112 : decode cX9_count 112 = .ok (.sipush 136, 3) := by decide +kernel
theorem dX9_count_115 : decode cX9_count 115 = .ok (.iaload, 1) := by decide +kernel
theorem dX9_count_116 : decode cX9_count 116 = .ok (.ireturn, 1) := by decide +kernel
theorem dX9_count_117 : decode cX9_count 117 = .ok (.aload_n 0, 1) := by decide +kernel
theorem dX9_count_118 : decode cX9_count 118 = .ok (.getfield 125, 3) := by decide +kernel
theorem dX9_count_121 : decode cX9_count 121 = .ok (.ireturn, 1) := by decide +kernel
theorem dX9_count_122 : decode cX9_count 122 = .ok (.aload_n 0, 1) := by decide +kernel
theorem dX9_count_123 : decode cX9_count 123 = .ok (.getfield 7, 3) := by decide +kernel
theorem dX9_count_126 : decode cX9_count 126 = .ok (.iload_n 1, 1) := by decide +kernel
theorem dX9_count_127 : decode cX9_count 127 = .ok (.iconst 5, 1) := by decide +kernel
theorem dX9_count_128 : decode cX9_count 128 = .ok (.isub, 1) := by decide +kernel
theorem dX9_count_129 : decode cX9_count 129 = .ok (.iaload, 1) := by decide +kernel
theorem dX9_count_130 : decode cX9_count 130 = .ok (.ireturn, 1) := by decide +kernel
theorem dX9_count_131 : decode cX9_count 131 = .ok (.aload_n 0, 1) := by decide +kernel
theorem dX9_count_132 : decode cX9_count 132 = .ok (.getfield 7, 3) := by decide +kernel
theorem dX9_count_135 : decode cX9_count 135 = .ok (.iconst 5, 1) := by decide +kernel
theorem dX9_count_136 : decode cX9_count 136 = .ok (.iaload, 1) := by decide +kernel
theorem dX9_count_137 : decode cX9_count 137 = .ok (.ireturn, 1) := by decide +kernel
theorem dX9_count_138 : decode cX9_count 138 = .ok (.aload_n 0, 1) := by decide +kernel
theorem dX9_count_139 : decode cX9_count 139 = .ok (.getfield 7, 3) := by decide +kernel
theorem dX9_count_142 : decode cX9_count 142 = .ok (.bipush 6, 2) := by decide +kernel
theorem dX9_count_144 : decode cX9_count 144 = .ok (.iaload, 1) := by decide +kernel
theorem dX9_count_145 : decode cX9_count 145 = .ok (.ireturn, 1) := by decide +kernel
theorem dX9_count_146 : decode cX9_count 146 = .ok (.aload_n 0, 1) := by decide +kernel
theorem dX9_count_147 : decode cX9_count 147 = .ok (.getfield 20, 3) := by decide +kernel
theorem dX9_count_150 : decode cX9_count 150 = .ok (.sipush 138, 3) := by decide +kernel
theorem dX9_count_153 : decode cX9_count 153 = .ok (.iaload, 1) := by decide +kernel
theorem dX9_count_154 : decode cX9_count 154 = .ok (.ireturn, 1) := by decide +kernel
theorem dX9_count_155 : decode cX9_count 155 = .ok (.aload_n 0, 1) := by decide +kernel
theorem dX9_count_156 : decode cX9_count 156 = .ok (.getfield 20, 3) := by decide +kernel
theorem dX9_count_159 : decode cX9_count 159 = .ok (.bipush 40, 2) := by decide +kernel
theorem dX9_count_161 : decode cX9_count 161 = .ok (.iload_n 1, 1) := by decide +kernel
theorem dX9_count_162 : decode cX9_count 162 = .ok (.iadd, 1) := by decide +kernel
theorem dX9_count_163 : decode cX9_count 163 = .ok (.bipush 12, 2) := by decide +kernel
theorem dX9_count_165 : decode cX9_count 165 = .ok (.isub, 1) := by decide +kernel
theorem dX9_count_166 : decode cX9_count 166 = .ok (.iaload, 1) := by decide +kernel
theorem dX9_count_167 : decode cX9_count 167 = .ok (.ireturn, 1) := by decide +kernel
theorem dX9_count_168 : decode cX9_count 168 = .ok (.iconst (-1), 1) := by decide +kernel
theorem dX9_count_169 : decode cX9_count 169 = .ok (.ireturn, 1) := by decide +kernel
theorem dX9_status_0 : decode cX9_status 0 = .ok (.aload_n 0, 1) := by decide +kernel
theorem dX9_status_1 : decode cX9_status 1 = .ok (.getfield 3, 3) := by decide +kernel
theorem dX9_status_4 : decode cX9_status 4 = .ok (.ireturn, 1) := by decide +kernel
