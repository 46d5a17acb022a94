theorem dX3_choose_48 : decode cX3_choose 48 = .ok (.invokevirtual 142, 3) := by decide +kernel
theorem dX3_choose_51 : decode cX3_choose 51 = .ok (.ifCond .ne 6, 3) := by decide +kernel
theorem dX3_choose_54 : decode cX3_choose 54 = .ok (.goto 72, 3) := by decide +kernel
theorem dX3_choose_57 : decode cX3_choose 57 = .ok (.aload_n 0, 1) := by decide +kernel
theorem dX3_choose_58 : decode cX3_choose 58 = .ok (.getfield 48, 3) := by decide +kernel
theorem dX3_choose_61 : decode cX3_choose 61 = .ok (.iload 7, 2) := by decide +kernel
theorem dX3_choose_63 : decode cX3_choose 63 = .ok (.iaload, 1) := by decide +kernel
theorem dX3_choose_64 : decode cX3_choose 64 = .ok (.iload_n 2, 1) := by decide +kernel
theorem dX3_choose_65 : decode cX3_choose 65 = .ok (.ifCond .eq 15, 3) := by decide +kernel
theorem dX3_choose_68 : decode cX3_choose 68 = .ok (.iload 7, 2) := by decide +kernel
theorem dX3_choose_70 : decode cX3_choose 70 = .ok (.invokestatic 126, 3) := by decide +kernel
theorem dX3_choose_73 : decode cX3_choose 73 = .ok (.sipush 10000, 3) := by decide +kernel
theorem dX3_choose_76 : decode cX3_choose 76 = .ok (.imul, 1) := by decide +kernel
theorem dX3_choose_77 : decode cX3_choose 77 = .ok (.goto 4, 3) := by decide +kernel
theorem dX3_choose_80 : decode cX3_choose 80 = .ok (.iconst 0, 1) := by decide +kernel
theorem dX3_choose_81 : decode cX3_choose 81 = .ok (.iadd, 1) := by decide +kernel
theorem dX3_choose_82 : decode cX3_choose 82 = .ok (.istore 8, 2) := by decide +kernel
theorem dX3_choose_84 : decode cX3_choose 84 = .ok (.iload 8, 2) := by decide +kernel
theorem dX3_choose_86 : decode cX3_choose 86 = .ok (.iload 6, 2) := by decide +kernel
theorem dX3_choose_88 : decode cX3_choose 88 = .ok (.if_icmp .le 21, 3) := by decide +kernel
theorem dX3_choose_91 : decode cX3_choose 91 = .ok (.iload 8, 2) := by decide +kernel
theorem dX3_choose_93 : decode cX3_choose 93 = .ok (.istore 6, 2) := by decide +kernel
theorem dX3_choose_95 : decode cX3_choose 95 = .ok (.aload_n 0, 1) := by decide +kernel
theorem dX3_choose_96 : decode cX3_choose 96 = .ok (.iload 7, 2) := by decide +kernel
theorem dX3_choose_98 : decode cX3_choose 98 = .ok (.putfield 63, 3) := by decide +kernel
theorem dX3_choose_101 : decode cX3_choose 101 = .ok (.aload_n 0, 1) := by decide +kernel
theorem dX3_choose_102 : decode cX3_choose 102 = .ok (.iconst 1, 1) := by decide +kernel
theorem dX3_choose_103 : decode cX3_choose 103 = .ok (.putfield 66, 3) := by decide +kernel
theorem dX3_choose_106 : decode cX3_choose 106 = .ok (.goto 20, 3) := by decide +kernel
theorem dX3_choose_109 : decode cX3_choose 109 = .ok (.iload 8, 2) := by decide +kernel
theorem dX3_choose_111 : decode cX3_choose 111 = .ok (.iload 6, 2) := by decide +kernel
theorem dX3_choose_113 : decode cX3_choose 113 = .ok (.if_icmp .ne 13, 3) := by decide +kernel
theorem dX3_choose_116 : decode cX3_choose 116 = .ok (.aload_n 0, 1) := by decide +kernel
theorem dX3_choose_117 : decode cX3_choose 117 = .ok (.dup, 1) := by decide +kernel
theorem dX3_choose_118 : decode cX3_choose 118 = .ok (.getfield 66, 3) := by decide +kernel
theorem dX3_choose_121 : decode cX3_choose 121 = .ok (.iconst 1, 1) := by decide +kernel
theorem dX3_choose_122 : decode cX3_choose 122 = .ok (.iadd, 1) := by decide +kernel
theorem dX3_choose_123 : decode cX3_choose 123 = .ok (.putfield 66, 3) := by decide +kernel
theorem dX3_choose_126 : decode cX3_choose 126 = .ok (.iinc 7 1, 3) := by decide +kernel
theorem dX3_choose_129 : decode cX3_choose 129 = .ok (.goto (-106), 3) := by decide +kernel
theorem dX3_choose_132 : decode cX3_choose 132 = .ok (.return_, 1) := by decide +kernel
theorem dX3_lineUp_0 : decode cX3_lineUp 0 = .ok (.iload_n 2, 1) := by decide +kernel
theorem dX3_lineUp_1 : decode cX3_lineUp 1 = .ok (.istore 4, 2) := by decide +kernel
theorem dX3_lineUp_3 : decode cX3_lineUp 3 = .ok (.aload_n 1, 1) := by decide +kernel
theorem dX3_lineUp_4 : decode cX3_lineUp 4 = .ok (.invokevirtual 136, 3) := by decide +kernel
theorem dX3_lineUp_7 : decode cX3_lineUp 7 = .ok (.istore 5, 2) := by decide +kernel
theorem dX3_lineUp_9 : decode cX3_lineUp 9 = .ok (.iconst 1, 1) := by decide +kernel
theorem dX3_lineUp_10 : decode cX3_lineUp 10 = .ok (.aload_n 1, 1) := by decide +kernel
theorem dX3_lineUp_11 : decode cX3_lineUp 11 = .ok (.invokevirtual 139, 3) := by decide +kernel
theorem dX3_lineUp_14 : decode cX3_lineUp 14 = .ok (.ishl, 1) := by decide +kernel
theorem dX3_lineUp_15 : decode cX3_lineUp 15 = .ok (.istore 6, 2) := by decide +kernel
theorem dX3_lineUp_17 : decode cX3_lineUp 17 = .ok (.aload_n 3, 1) := by decide +kernel
theorem dX3_lineUp_18 : decode cX3_lineUp 18 = .ok (.invokevirtual 146, 3) := by decide +kernel
theorem dX3_lineUp_21 : decode cX3_lineUp 21 = .ok (.pop, 1) := by decide +kernel
theorem dX3_lineUp_22 : decode cX3_lineUp 22 = .ok (.iconst 0, 1) := by decide +kernel
theorem dX3_lineUp_23 : decode cX3_lineUp 23 = .ok (.istore 7, 2) := by decide +kernel
theorem dX3_lineUp_25 : decode cX3_lineUp 25 = .ok (.iload 7, 2) := by decide +kernel
theorem dX3_lineUp_27 : decode cX3_lineUp 27 = .ok (.aload_n 0, 1) := by decide +kernel
theorem dX3_lineUp_28 : decode cX3_lineUp 28 = .ok (.getfield 34, 3) := by decide +kernel
theorem dX3_lineUp_31 : decode cX3_lineUp 31 = .ok (.if_icmp .ge 73, 3) := by decide +kernel
theorem dX3_lineUp_34 : decode cX3_lineUp 34 = .ok (.iload 4, 2) := by decide +kernel
theorem dX3_lineUp_36 : decode cX3_lineUp 36 = .ok (.ifCond .eq 68, 3) := by decide +kernel
theorem dX3_lineUp_39 : decode cX3_lineUp 39 = .ok (.aload_n 0, 1) := by decide +kernel
theorem dX3_lineUp_40 : decode cX3_lineUp 40 = .ok (.iload 4, 2) := by decide +kernel
theorem dX3_lineUp_42 : decode cX3_lineUp 42 = .ok (.iload 5, 2) := by decide +kernel
theorem dX3_lineUp_44 : decode cX3_lineUp 44 = .ok (.iload 6, 2) := by decide +kernel
theorem dX3_lineUp_46 : decode cX3_lineUp 46 = .ok (.invokevirtual 151, 3) := by decide +kernel
theorem dX3_lineUp_49 : decode cX3_lineUp 49 = .ok (.istore 8, 2) := by decide +kernel
theorem dX3_lineUp_51 : decode cX3_lineUp 51 = .ok (.iload 8, 2) := by decide +kernel
theorem dX3_lineUp_53 : decode cX3_lineUp 53 = .ok (.iconst (-1), 1) := by decide +kernel
theorem dX3_lineUp_54 : decode cX3_lineUp 54 = .ok (.if_icmp .ne 4, 3) := by decide +kernel
theorem dX3_lineUp_57 : decode cX3_lineUp 57 = .ok (.return_, 1) := by decide +kernel
theorem dX3_lineUp_58 : decode cX3_lineUp 58 = .ok (.aload_n 0, 1) := by decide +kernel
theorem dX3_lineUp_59 : decode cX3_lineUp 59 = .ok (.iload 8, 2) := by decide +kernel
theorem dX3_lineUp_61 : decode cX3_lineUp 61 = .ok (.iload 5, 2) := by decide +kernel
theorem dX3_lineUp_63 : decode cX3_lineUp 63 = .ok (.invokevirtual 155, 3) := by decide +kernel
theorem dX3_lineUp_66 : decode cX3_lineUp 66 = .ok (.istore 5, 2) := by decide +kernel
theorem dX3_lineUp_68 : decode cX3_lineUp 68 = .ok (.aload_n 0, 1) := by decide +kernel
theorem dX3_lineUp_69 : decode cX3_lineUp 69 = .ok (.iload 8, 2) := by decide +kernel
theorem dX3_lineUp_71 : decode cX3_lineUp 71 = .ok (.iload 6, 2) := by decide +kernel
theorem dX3_lineUp_73 : decode cX3_lineUp 73 = .ok (.invokevirtual 158, 3) := by decide +kernel
theorem dX3_lineUp_76 : decode cX3_lineUp 76 = .ok (.istore 6, 2) := by decide +kernel
theorem dX3_lineUp_78 : decode cX3_lineUp 78 = .ok (.iload 4, 2) := by decide +kernel
theorem dX3_lineUp_80 : decode cX3_lineUp 80 = .ok (.iconst 1, 1) := by decide +kernel
theorem dX3_lineUp_81 : decode cX3_lineUp 81 = .ok (.iload 8, 2) := by decide +kernel
theorem dX3_lineUp_83 : decode cX3_lineUp 83 = .ok (.ishl, 1) := by decide +kernel
theorem dX3_lineUp_84 : decode cX3_lineUp 84 = .ok (.iconst (-1), 1) := by decide +kernel
theorem dX3_lineUp_85 : decode cX3_lineUp 85 = .ok (.ixor, 1) := by decide +kernel
theorem dX3_lineUp_86 : decode cX3_lineUp 86 = .ok (.iand, 1) := by decide +kernel
theorem dX3_lineUp_87 : decode cX3_lineUp 87 = .ok (.istore 4, 2) := by decide +kernel
theorem dX3_lineUp_89 : decode cX3_lineUp 89 = .ok (.aload_n 3, 1) := by decide +kernel
theorem dX3_lineUp_90 : decode cX3_lineUp 90 = .ok (.iload 8, 2) := by decide +kernel
theorem dX3_lineUp_92 : decode cX3_lineUp 92 = .ok (.iload 5, 2) := by decide +kernel
theorem dX3_lineUp_94 : decode cX3_lineUp 94 = .ok (.iconst (-1), 1) := by decide +kernel
theorem dX3_lineUp_95 : decode cX3_lineUp 95 = .ok (.invokevirtual 161, 3) := by decide +kernel
theorem dX3_lineUp_98 : decode cX3_lineUp 98 = .ok (.iinc 7 1, 3) := by decide +kernel
theorem dX3_lineUp_101 : decode cX3_lineUp 101 = .ok (.goto (-76), 3) := by decide +kernel
theorem dX3_lineUp_104 : decode cX3_lineUp 104 = .ok (.aload_n 0, 1) := by decide +kernel
theorem dX3_lineUp_105 : decode cX3_lineUp 105 = .ok (.aload_n 3, 1) := by decide +kernel
theorem dX3_lineUp_106 : decode cX3_lineUp 106 = .ok (.aload_n 1, 1) := by decide +kernel
theorem dX3_lineUp_107 : decode cX3_lineUp 107 = .ok (.invokevirtual 139, 3) := by decide +kernel
theorem dX3_lineUp_110 : decode cX3_lineUp 110 = .ok (.invokevirtual 165, 3) := by decide +kernel
theorem dX3_lineUp_113 : decode cX3_lineUp 113 = .ok (.return_, 1) := by decide +kernel
theorem dX3_firstTale_0 : decode cX3_firstTale 0 = .ok (.iconst 0, 1) := by decide +kernel
theorem dX3_firstTale_1 : decode cX3_firstTale 1 = .ok (.istore 4, 2) := by decide +kernel
theorem dX3_firstTale_3 : decode cX3_firstTale 3 = .ok (.iload 4, 2) := by decide +kernel
theorem dX3_firstTale_5 : decode cX3_firstTale 5 = .ok (.aload_n 0, 1) := by decide +kernel
theorem dX3_firstTale_6 : decode cX3_firstTale 6 = .ok (.getfield 34, 3) := by decide +kernel
theorem dX3_firstTale_9 : decode cX3_firstTale 9 = .ok (.if_icmp .ge 40, 3) := by decide +kernel
theorem dX3_firstTale_12 : decode cX3_firstTale 12 = .ok (.iload_n 1, 1) := by decide +kernel
theorem dX3_firstTale_13 : decode cX3_firstTale 13 = .ok (.iload 4, 2) := by decide +kernel
theorem dX3_firstTale_15 : decode cX3_firstTale 15 = .ok (.ishr, 1) := by decide +kernel
theorem dX3_firstTale_16 : decode cX3_firstTale 16 = .ok (.iconst 1, 1) := by decide +kernel
theorem dX3_firstTale_17 : decode cX3_firstTale 17 = .ok (.iand, 1) := by decide +kernel
theorem dX3_firstTale_18 : decode cX3_firstTale 18 = .ok (.ifCond .eq 25, 3) := by decide +kernel
theorem dX3_firstTale_21 : decode cX3_firstTale 21 = .ok (.aload_n 0, 1) := by decide +kernel
theorem dX3_firstTale_22 : decode cX3_firstTale 22 = .ok (.iload 4, 2) := by decide +kernel
theorem dX3_firstTale_24 : decode cX3_firstTale 24 = .ok (.iload_n 1, 1) := by decide +kernel
theorem dX3_firstTale_25 : decode cX3_firstTale 25 = .ok (.iconst 1, 1) := by decide +kernel
theorem dX3_firstTale_26 : decode cX3_firstTale 26 = .ok (.iload 4, 2) := by decide +kernel
theorem dX3_firstTale_28 : decode cX3_firstTale 28 = .ok (.ishl, 1) := by decide +kernel
theorem dX3_firstTale_29 : decode cX3_firstTale 29 = .ok (.iconst (-1), 1) := by decide +kernel
theorem dX3_firstTale_30 : decode cX3_firstTale 30 = .ok (.ixor, 1) := by decide +kernel
theorem dX3_firstTale_31 : decode cX3_firstTale 31 = .ok (.iand, 1) := by decide +kernel
theorem dX3_firstTale_32 : decode cX3_firstTale 32 = .ok (.iload_n 2, 1) := by decide +kernel
theorem dX3_firstTale_33 : decode cX3_firstTale 33 = .ok (.iload_n 3, 1) := by decide +kernel
theorem dX3_firstTale_34 : decode cX3_firstTale 34 = .ok (.invokevirtual 169, 3) := by decide +kernel
theorem dX3_firstTale_37 : decode cX3_firstTale 37 = .ok (.ifCond .eq 6, 3) := by decide +kernel
theorem dX3_firstTale_40 : decode cX3_firstTale 40 = .ok (.iload 4, 2) := by decide +kernel
theorem dX3_firstTale_42 : decode cX3_firstTale 42 = .ok (.ireturn, 1) := by decide +kernel
theorem dX3_firstTale_43 : decode cX3_firstTale 43 = .ok (.iinc 4 1, 3) := by decide +kernel
theorem dX3_firstTale_46 : decode cX3_firstTale 46 = .ok (.goto (-43), 3) := by decide +kernel
theorem dX3_firstTale_49 : decode cX3_firstTale 49 = .ok (.iconst (-1), 1) := by decide +kernel
theorem dX3_firstTale_50 : decode cX3_firstTale 50 = .ok (.ireturn, 1) := by decide +kernel
theorem dX3_leadsOn_0 : decode cX3_leadsOn 0 = .ok (.aload_n 0, 1) := by decide +kernel
theorem dX3_leadsOn_1 : decode cX3_leadsOn 1 = .ok (.iload_n 1, 1) := by decide +kernel
theorem dX3_leadsOn_2 : decode cX3_leadsOn 2 = .ok (.iload_n 3, 1) := by decide +kernel
theorem dX3_leadsOn_3 : decode cX3_leadsOn 3 = .ok (.invokevirtual 155, 3) := by decide +kernel
theorem dX3_leadsOn_6 : decode cX3_leadsOn 6 = .ok (.istore 5, 2) := by decide +kernel
theorem dX3_leadsOn_8 : decode cX3_leadsOn 8 = .ok (.aload_n 0, 1) := by decide +kernel
theorem dX3_leadsOn_9 : decode cX3_leadsOn 9 = .ok (.iload_n 1, 1) := by decide +kernel
theorem dX3_leadsOn_10 : decode cX3_leadsOn 10 = .ok (.iload 4, 2) := by decide +kernel
theorem dX3_leadsOn_12 : decode cX3_leadsOn 12 = .ok (.invokevirtual 158, 3) := by decide +kernel
theorem dX3_leadsOn_15 : decode cX3_leadsOn 15 = .ok (.istore 6, 2) := by decide +kernel
theorem dX3_leadsOn_17 : decode cX3_leadsOn 17 = .ok (.iconst 0, 1) := by decide +kernel
theorem dX3_leadsOn_18 : decode cX3_leadsOn 18 = .ok (.istore 7, 2) := by decide +kernel
theorem dX3_leadsOn_20 : decode cX3_leadsOn 20 = .ok (.iload 7, 2) := by decide +kernel
theorem dX3_leadsOn_22 : decode cX3_leadsOn 22 = .ok (.iconst 4, 1) := by decide +kernel
theorem dX3_leadsOn_23 : decode cX3_leadsOn 23 = .ok (.if_icmp .ge 39, 3) := by decide +kernel
theorem dX3_leadsOn_26 : decode cX3_leadsOn 26 = .ok (.iload 5, 2) := by decide +kernel
theorem dX3_leadsOn_28 : decode cX3_leadsOn 28 = .ok (.iconst (-1), 1) := by decide +kernel
theorem dX3_leadsOn_29 : decode cX3_leadsOn 29 = .ok (.if_icmp .eq 27, 3) := by decide +kernel
theorem dX3_leadsOn_32 : decode cX3_leadsOn 32 = .ok (.iload 6, 2) := by decide +kernel
theorem dX3_leadsOn_34 : decode cX3_leadsOn 34 = .ok (.iload 7, 2) := by decide +kernel
theorem dX3_leadsOn_36 : decode cX3_leadsOn 36 = .ok (.ishr, 1) := by decide +kernel
theorem dX3_leadsOn_37 : decode cX3_leadsOn 37 = .ok (.iconst 1, 1) := by decide +kernel
theorem dX3_leadsOn_38 : decode cX3_leadsOn 38 = .ok (.iand, 1) := by decide +kernel
theorem dX3_leadsOn_39 : decode cX3_leadsOn 39 = .ok (.ifCond .eq 17, 3) := by decide +kernel
theorem dX3_leadsOn_42 : decode cX3_leadsOn 42 = .ok (.aload_n 0, 1) := by decide +kernel
theorem dX3_leadsOn_43 : decode cX3_leadsOn 43 = .ok (.iload_n 2, 1) := by decide +kernel
theorem dX3_leadsOn_44 : decode cX3_leadsOn 44 = .ok (.iload 5, 2) := by decide +kernel
theorem dX3_leadsOn_46 : decode cX3_leadsOn 46 = .ok (.iload 7, 2) := by decide +kernel
theorem dX3_leadsOn_48 : decode cX3_leadsOn 48 = .ok (.invokevirtual 142, 3) := by decide +kernel
theorem dX3_leadsOn_51 : decode cX3_leadsOn 51 = .ok (.ifCond .eq 5, 3) := by decide +kernel
theorem dX3_leadsOn_54 : decode cX3_leadsOn 54 = .ok (.iconst 1, 1) := by decide +kernel
theorem dX3_leadsOn_55 : decode cX3_leadsOn 55 = .ok (.ireturn, 1) := by decide +kernel
theorem dX3_leadsOn_56 : decode cX3_leadsOn 56 = .ok (.iinc 7 1, 3) := by decide +kernel
theorem dX3_leadsOn_59 : decode cX3_leadsOn 59 = .ok (.goto (-39), 3) := by decide +kernel
theorem dX3_leadsOn_62 : decode cX3_leadsOn 62 = .ok (.iconst 0, 1) := by decide +kernel
theorem dX3_leadsOn_63 : decode cX3_leadsOn 63 = .ok (.ireturn, 1) := by decide +kernel
theorem dX3_nameTellers_0 : decode cX3_nameTellers 0 = .ok (.iconst 0, 1) := by decide +kernel
theorem dX3_nameTellers_1 : decode cX3_nameTellers 1 = .ok (.istore_n 3, 1) := by decide +kernel
theorem dX3_nameTellers_2 : decode cX3_nameTellers 2 = .ok (.aload_n 1, 1) := by decide +kernel
theorem dX3_nameTellers_3 : decode cX3_nameTellers 3 = .ok (.getfield 173, 3) := by decide +kernel
theorem dX3_nameTellers_6 : decode cX3_nameTellers 6 = .ok (.iconst 1, 1) := by decide +kernel
theorem dX3_nameTellers_7 : decode cX3_nameTellers 7 = .ok (.isub, 1) := by decide +kernel
theorem dX3_nameTellers_8 : decode cX3_nameTellers 8 = .ok (.istore 4, 2) := by decide +kernel
theorem dX3_nameTellers_10 : decode cX3_nameTellers 10 = .ok (.iload 4, 2) := by decide +kernel
theorem dX3_nameTellers_12 : decode cX3_nameTellers 12 = .ok (.ifCond .lt 68, 3) := by decide +kernel
theorem dX3_nameTellers_15 : decode cX3_nameTellers 15 = .ok (.iload 4, 2) := by decide +kernel
theorem dX3_nameTellers_17 : decode cX3_nameTellers 17 = .ok (.aload_n 1, 1) := by decide +kernel
theorem dX3_nameTellers_18 : decode cX3_nameTellers 18 = .ok (.getfield 173, 3) := by decide +kernel
theorem dX3_nameTellers_21 : decode cX3_nameTellers 21 = .ok (.iconst 1, 1) := by decide +kernel
theorem dX3_nameTellers_22 : decode cX3_nameTellers 22 = .ok (.isub, 1) := by decide +kernel
theorem dX3_nameTellers_23 : decode cX3_nameTellers 23 = .ok (.if_icmp .ne 7, 3) := by decide +kernel
theorem dX3_nameTellers_26 : decode cX3_nameTellers 26 = .ok (.iconst 1, 1) := by decide +kernel
theorem dX3_nameTellers_27 : decode cX3_nameTellers 27 = .ok (.goto 4, 3) := by decide +kernel
theorem dX3_nameTellers_30 : decode cX3_nameTellers 30 = .ok (.iconst 0, 1) := by decide +kernel
theorem dX3_nameTellers_31 : decode cX3_nameTellers 31 = .ok (.istore 5, 2) := by decide +kernel
theorem dX3_nameTellers_33 : decode cX3_nameTellers 33 = .ok (.iload 5, 2) := by decide +kernel
theorem dX3_nameTellers_35 : decode cX3_nameTellers 35 = .ok (.ifCond .eq 18, 3) := by decide +kernel
theorem dX3_nameTellers_38 : decode cX3_nameTellers 38 = .ok (.aload_n 0, 1) := by decide +kernel
theorem dX3_nameTellers_39 : decode cX3_nameTellers 39 = .ok (.getfield 31, 3) := by decide +kernel
theorem dX3_nameTellers_42 : decode cX3_nameTellers 42 = .ok (.aload_n 1, 1) := by decide +kernel
theorem dX3_nameTellers_43 : decode cX3_nameTellers 43 = .ok (.getfield 176, 3) := by decide +kernel
theorem dX3_nameTellers_46 : decode cX3_nameTellers 46 = .ok (.iload 4, 2) := by decide +kernel
theorem dX3_nameTellers_48 : decode cX3_nameTellers 48 = .ok (.iaload, 1) := by decide +kernel
theorem dX3_nameTellers_49 : decode cX3_nameTellers 49 = .ok (.iaload, 1) := by decide +kernel
theorem dX3_nameTellers_50 : decode cX3_nameTellers 50 = .ok (.goto 15, 3) := by decide +kernel
theorem dX3_nameTellers_53 : decode cX3_nameTellers 53 = .ok (.aload_n 0, 1) := by decide +kernel
theorem dX3_nameTellers_54 : decode cX3_nameTellers 54 = .ok (.aload_n 1, 1) := by decide +kernel
theorem dX3_nameTellers_55 : decode cX3_nameTellers 55 = .ok (.getfield 176, 3) := by decide +kernel
theorem dX3_nameTellers_58 : decode cX3_nameTellers 58 = .ok (.iload 4, 2) := by decide +kernel
theorem dX3_nameTellers_60 : decode cX3_nameTellers 60 = .ok (.iaload, 1) := by decide +kernel
theorem dX3_nameTellers_61 : decode cX3_nameTellers 61 = .ok (.iload_n 3, 1) := by decide +kernel
theorem dX3_nameTellers_62 : decode cX3_nameTellers 62 = .ok (.invokevirtual 179, 3) := by decide +kernel
theorem dX3_nameTellers_65 : decode cX3_nameTellers 65 = .ok (.istore_n 3, 1) := by decide +kernel
theorem dX3_nameTellers_66 : decode cX3_nameTellers 66 = .ok (.aload_n 0, 1) := by decide +kernel
theorem dX3_nameTellers_67 : decode cX3_nameTellers 67 = .ok (.getfield 60, 3) := by decide +kernel
theorem dX3_nameTellers_70 : decode cX3_nameTellers 70 = .ok (.iload 4, 2) := by decide +kernel
theorem dX3_nameTellers_72 : decode cX3_nameTellers 72 = .ok (.iload_n 3, 1) := by decide +kernel
theorem dX3_nameTellers_73 : decode cX3_nameTellers 73 = .ok (.iastore, 1) := by decide +kernel
theorem dX3_nameTellers_74 : decode cX3_nameTellers 74 = .ok (.iinc 4 (-1), 3) := by decide +kernel
theorem dX3_nameTellers_77 : decode cX3_nameTellers 77 = .ok (.goto (-67), 3) := by decide +kernel
theorem dX3_nameTellers_80 : decode cX3_nameTellers 80 = .ok (.iload_n 2, 1) := by decide +kernel
theorem dX3_nameTellers_81 : decode cX3_nameTellers 81 = .ok (.istore 4, 2) := by decide +kernel
theorem dX3_nameTellers_83 : decode cX3_nameTellers 83 = .ok (.iconst 0, 1) := by decide +kernel
theorem dX3_nameTellers_84 : decode cX3_nameTellers 84 = .ok (.istore 5, 2) := by decide +kernel
theorem dX3_nameTellers_86 : decode cX3_nameTellers 86 = .ok (.iload 5, 2) := by decide +kernel
theorem dX3_nameTellers_88 : decode cX3_nameTellers 88 = .ok (.aload_n 1, 1) := by decide +kernel
theorem dX3_nameTellers_89 : decode cX3_nameTellers 89 = .ok (.getfield 173, 3) := by decide +kernel
theorem dX3_nameTellers_92 : decode cX3_nameTellers 92 = .ok (.if_icmp .ge 58, 3) := by decide +kernel
theorem dX3_nameTellers_95 : decode cX3_nameTellers 95 = .ok (.aload_n 0, 1) := by decide +kernel
theorem dX3_nameTellers_96 : decode cX3_nameTellers 96 = .ok (.getfield 38, 3) := by decide +kernel
theorem dX3_nameTellers_99 : decode cX3_nameTellers 99 = .ok (.ifCond .eq 13, 3) := by decide +kernel
theorem dX3_nameTellers_102 : decode cX3_nameTellers 102 = .ok (.aload_n 0, 1) := by decide +kernel
theorem dX3_nameTellers_103 : decode cX3_nameTellers 103 = .ok (.getfield 60, 3) := by decide +kernel
theorem dX3_nameTellers_106 : decode cX3_nameTellers 106 = .ok (.iload 5, 2) := by decide +kernel
theorem dX3_nameTellers_108 : decode cX3_nameTellers 108 = .ok (.iaload, 1) := by decide +kernel
theorem dX3_nameTellers_109 : decode cX3_nameTellers 109 = .ok (.goto 17, 3) := by decide +kernel
theorem dX3_nameTellers_112 : decode cX3_nameTellers 112 = .ok (.aload_n 0, 1) := by decide +kernel
theorem dX3_nameTellers_113 : decode cX3_nameTellers 113 = .ok (.getfield 60, 3) := by decide +kernel
theorem dX3_nameTellers_116 : decode cX3_nameTellers 116 = .ok (.iload 5, 2) := by decide +kernel
theorem dX3_nameTellers_118 : decode cX3_nameTellers 118 = .ok (.iaload, 1) := by decide +kernel
theorem dX3_nameTellers_119 : decode cX3_nameTellers 119 = .ok (.iconst 1, 1) := by decide +kernel
theorem dX3_nameTellers_120 : decode cX3_nameTellers 120 = .ok (.iload 4, 2) := by decide +kernel
theorem dX3_nameTellers_122 : decode cX3_nameTellers 122 = .ok (.ishl, 1) := by decide +kernel
theorem dX3_nameTellers_123 : decode cX3_nameTellers 123 = .ok (.iconst (-1), 1) := by decide +kernel
theorem dX3_nameTellers_124 : decode cX3_nameTellers 124 = .ok (.ixor, 1) := by decide +kernel
theorem dX3_nameTellers_125 : decode cX3_nameTellers 125 = .ok (.iand, 1) := by decide +kernel
theorem dX3_nameTellers_126 : decode cX3_nameTellers 126 = .ok (.istore 6, 2) := by decide +kernel
theorem dX3_nameTellers_128 : decode cX3_nameTellers 128 = .ok (.iload 6, 2) := by decide +kernel
theorem dX3_nameTellers_130 : decode cX3_nameTellers 130 = .ok (.invokestatic 182, 3) := by decide +kernel
theorem dX3_nameTellers_133 : decode cX3_nameTellers 133 = .ok (.istore 4, 2) := by decide +kernel
theorem dX3_nameTellers_135 : decode cX3_nameTellers 135 = .ok (.aload_n 1, 1) := by decide +kernel
theorem dX3_nameTellers_136 : decode cX3_nameTellers 136 = .ok (.getfield 185, 3) := by decide +kernel
theorem dX3_nameTellers_139 : decode cX3_nameTellers 139 = .ok (.iload 5, 2) := by decide +kernel
theorem dX3_nameTellers_141 : decode cX3_nameTellers 141 = .ok (.iload 4, 2) := by decide +kernel
theorem dX3_nameTellers_143 : decode cX3_nameTellers 143 = .ok (.iastore, 1) := by decide +kernel
theorem dX3_nameTellers_144 : decode cX3_nameTellers 144 = .ok (.iinc 5 1, 3) := by decide +kernel
theorem dX3_nameTellers_147 : decode cX3_nameTellers 147 = .ok (.goto (-61), 3) := by decide +kernel
theorem dX3_nameTellers_150 : decode cX3_nameTellers 150 = .ok (.return_, 1) := by decide +kernel
theorem dX3_leaders_0 : decode cX3_leaders 0 = .ok (.aload_n 0, 1) := by decide +kernel
theorem dX3_leaders_1 : decode cX3_leaders 1 = .ok (.getfield 38, 3) := by decide +kernel
theorem dX3_leaders_4 : decode cX3_leaders 4 = .ok (.ifCond .ne 11, 3) := by decide +kernel
theorem dX3_leaders_7 : decode cX3_leaders 7 = .ok (.iload_n 2, 1) := by decide +kernel
theorem dX3_leaders_8 : decode cX3_leaders 8 = .ok (.invokestatic 126, 3) := by decide +kernel
theorem dX3_leaders_11 : decode cX3_leaders 11 = .ok (.iconst 1, 1) := by decide +kernel
theorem dX3_leaders_12 : decode cX3_leaders 12 = .ok (.if_icmp .le 10, 3) := by decide +kernel
theorem dX3_leaders_15 : decode cX3_leaders 15 = .ok (.aload_n 0, 1) := by decide +kernel
theorem dX3_leaders_16 : decode cX3_leaders 16 = .ok (.getfield 31, 3) := by decide +kernel
theorem dX3_leaders_19 : decode cX3_leaders 19 = .ok (.iload_n 1, 1) := by decide +kernel
theorem dX3_leaders_20 : decode cX3_leaders 20 = .ok (.iaload, 1) := by decide +kernel
theorem dX3_leaders_21 : decode cX3_leaders 21 = .ok (.ireturn, 1) := by decide +kernel
theorem dX3_leaders_22 : decode cX3_leaders 22 = .ok (.aload_n 0, 1) := by decide +kernel
theorem dX3_leaders_23 : decode cX3_leaders 23 = .ok (.getfield 31, 3) := by decide +kernel
theorem dX3_leaders_26 : decode cX3_leaders 26 = .ok (.iload_n 1, 1) := by decide +kernel
theorem dX3_leaders_27 : decode cX3_leaders 27 = .ok (.iaload, 1) := by decide +kernel
theorem dX3_leaders_28 : decode cX3_leaders 28 = .ok (.iload_n 2, 1) := by decide +kernel
theorem dX3_leaders_29 : decode cX3_leaders 29 = .ok (.iconst (-1), 1) := by decide +kernel
theorem dX3_leaders_30 : decode cX3_leaders 30 = .ok (.ixor, 1) := by decide +kernel
theorem dX3_leaders_31 : decode cX3_leaders 31 = .ok (.iand, 1) := by decide +kernel
theorem dX3_leaders_32 : decode cX3_leaders 32 = .ok (.ireturn, 1) := by decide +kernel
theorem dX3_lowestBit_0 : decode cX3_lowestBit 0 = .ok (.iconst 0, 1) := by decide +kernel
theorem dX3_lowestBit_1 : decode cX3_lowestBit 1 = .ok (.istore_n 1, 1) := by decide +kernel
theorem dX3_lowestBit_2 : decode cX3_lowestBit 2 = .ok (.iload_n 1, 1) := by decide +kernel
theorem dX3_lowestBit_3 : decode cX3_lowestBit 3 = .ok (.iconst 4, 1) := by decide +kernel
theorem dX3_lowestBit_4 : decode cX3_lowestBit 4 = .ok (.if_icmp .ge 19, 3) := by decide +kernel
theorem dX3_lowestBit_7 : decode cX3_lowestBit 7 = .ok (.iload_n 0, 1) := by decide +kernel
theorem dX3_lowestBit_8 : decode cX3_lowestBit 8 = .ok (.iload_n 1, 1) := by decide +kernel
theorem dX3_lowestBit_9 : decode cX3_lowestBit 9 = .ok (.ishr, 1) := by decide +kernel
theorem dX3_lowestBit_10 : decode cX3_lowestBit 10 = .ok (.iconst 1, 1) := by decide +kernel
theorem dX3_lowestBit_11 : decode cX3_lowestBit 11 = .ok (.iand, 1) := by decide +kernel
theorem dX3_lowestBit_12 : decode cX3_lowestBit 12 = .ok (.ifCond .eq 5, 3) := by decide +kernel
theorem dX3_lowestBit_15 : decode cX3_lowestBit 15 = .ok (.iload_n 1, 1) := by decide +kernel
theorem dX3_lowestBit_16 : decode cX3_lowestBit 16 = .ok (.ireturn, 1) := by decide +kernel
theorem dX3_lowestBit_17 : decode cX3_lowestBit 17 = .ok (.iinc 1 1, 3) := by decide +kernel
theorem dX3_lowestBit_20 : decode cX3_lowestBit 20 = .ok (.goto (-18), 3) := by decide +kernel
theorem dX3_lowestBit_23 : decode cX3_lowestBit 23 = .ok (.iconst 4, 1) := by decide +kernel
theorem dX3_lowestBit_24 : decode cX3_lowestBit 24 = .ok (.ireturn, 1) := by decide +kernel
theorem dX3_rows_0 : decode cX3_rows 0 = .ok (.iload_n 1, 1) := by decide +kernel
theorem dX3_rows_1 : decode cX3_rows 1 = .ok (.ifCond .ne 5, 3) := by decide +kernel
theorem dX3_rows_4 : decode cX3_rows 4 = .ok (.iconst 1, 1) := by decide +kernel
theorem dX3_rows_5 : decode cX3_rows 5 = .ok (.ireturn, 1) := by decide +kernel
theorem dX3_rows_6 : decode cX3_rows 6 = .ok (.iconst 0, 1) := by decide +kernel
theorem dX3_rows_7 : decode cX3_rows 7 = .ok (.istore 5, 2) := by decide +kernel
theorem dX3_rows_9 : decode cX3_rows 9 = .ok (.iconst 0, 1) := by decide +kernel
theorem dX3_rows_10 : decode cX3_rows 10 = .ok (.istore 6, 2) := by decide +kernel
theorem dX3_rows_12 : decode cX3_rows 12 = .ok (.iload 6, 2) := by decide +kernel
theorem dX3_rows_14 : decode cX3_rows 14 = .ok (.aload_n 0, 1) := by decide +kernel
theorem dX3_rows_15 : decode cX3_rows 15 = .ok (.getfield 34, 3) := by decide +kernel
theorem dX3_rows_18 : decode cX3_rows 18 = .ok (.if_icmp .ge 79, 3) := by decide +kernel
theorem dX3_rows_21 : decode cX3_rows 21 = .ok (.iload 4, 2) := by decide +kernel
theorem dX3_rows_23 : decode cX3_rows 23 = .ok (.bipush 7, 2) := by decide +kernel
theorem dX3_rows_25 : decode cX3_rows 25 = .ok (.if_icmp .ge 72, 3) := by decide +kernel
theorem dX3_rows_28 : decode cX3_rows 28 = .ok (.iload_n 1, 1) := by decide +kernel
theorem dX3_rows_29 : decode cX3_rows 29 = .ok (.iload 6, 2) := by decide +kernel
theorem dX3_rows_31 : decode cX3_rows 31 = .ok (.ishr, 1) := by decide +kernel
theorem dX3_rows_32 : decode cX3_rows 32 = .ok (.iconst 1, 1) := by decide +kernel
theorem dX3_rows_33 : decode cX3_rows 33 = .ok (.iand, 1) := by decide +kernel
theorem dX3_rows_34 : decode cX3_rows 34 = .ok (.ifCond .eq 57, 3) := by decide +kernel
theorem dX3_rows_37 : decode cX3_rows 37 = .ok (.aload_n 0, 1) := by decide +kernel
theorem dX3_rows_38 : decode cX3_rows 38 = .ok (.iload 6, 2) := by decide +kernel
theorem dX3_rows_40 : decode cX3_rows 40 = .ok (.iload_n 2, 1) := by decide +kernel
theorem dX3_rows_41 : decode cX3_rows 41 = .ok (.invokevirtual 155, 3) := by decide +kernel
theorem dX3_rows_44 : decode cX3_rows 44 = .ok (.istore 7, 2) := by decide +kernel
theorem dX3_rows_46 : decode cX3_rows 46 = .ok (.aload_n 0, 1) := by decide +kernel
theorem dX3_rows_47 : decode cX3_rows 47 = .ok (.iload 6, 2) := by decide +kernel
theorem dX3_rows_49 : decode cX3_rows 49 = .ok (.iload_n 3, 1) := by decide +kernel
theorem dX3_rows_50 : decode cX3_rows 50 = .ok (.invokevirtual 158, 3) := by decide +kernel
theorem dX3_rows_53 : decode cX3_rows 53 = .ok (.istore 8, 2) := by decide +kernel
theorem dX3_rows_55 : decode cX3_rows 55 = .ok (.iload 7, 2) := by decide +kernel
theorem dX3_rows_57 : decode cX3_rows 57 = .ok (.iconst (-1), 1) := by decide +kernel
theorem dX3_rows_58 : decode cX3_rows 58 = .ok (.if_icmp .eq 33, 3) := by decide +kernel
theorem dX3_rows_61 : decode cX3_rows 61 = .ok (.iload 8, 2) := by decide +kernel
theorem dX3_rows_63 : decode cX3_rows 63 = .ok (.ifCond .eq 28, 3) := by decide +kernel
theorem dX3_rows_66 : decode cX3_rows 66 = .ok (.iload 5, 2) := by decide +kernel
theorem dX3_rows_68 : decode cX3_rows 68 = .ok (.aload_n 0, 1) := by decide +kernel
theorem dX3_rows_69 : decode cX3_rows 69 = .ok (.iload_n 1, 1) := by decide +kernel
theorem dX3_rows_70 : decode cX3_rows 70 = .ok (.iconst 1, 1) := by decide +kernel
theorem dX3_rows_71 : decode cX3_rows 71 = .ok (.iload 6, 2) := by decide +kernel
theorem dX3_rows_73 : decode cX3_rows 73 = .ok (.ishl, 1) := by decide +kernel
theorem dX3_rows_74 : decode cX3_rows 74 = .ok (.iconst (-1), 1) := by decide +kernel
theorem dX3_rows_75 : decode cX3_rows 75 = .ok (.ixor, 1) := by decide +kernel
theorem dX3_rows_76 : decode cX3_rows 76 = .ok (.iand, 1) := by decide +kernel
theorem dX3_rows_77 : decode cX3_rows 77 = .ok (.iload 7, 2) := by decide +kernel
theorem dX3_rows_79 : decode cX3_rows 79 = .ok (.iload 8, 2) := by decide +kernel
theorem dX3_rows_81 : decode cX3_rows 81 = .ok (.iload 4, 2) := by decide +kernel
theorem dX3_rows_83 : decode cX3_rows 83 = .ok (.iconst 1, 1) := by decide +kernel
theorem dX3_rows_84 : decode cX3_rows 84 = .ok (.iadd, 1) := by decide +kernel
theorem dX3_rows_85 : decode cX3_rows 85 = .ok (.invokevirtual 188, 3) := by decide +kernel
theorem dX3_rows_88 : decode cX3_rows 88 = .ok (.iadd, 1) := by decide +kernel
theorem dX3_rows_89 : decode cX3_rows 89 = .ok (.istore 5, 2) := by decide +kernel
theorem dX3_rows_91 : decode cX3_rows 91 = .ok (.iinc 6 1, 3) := by decide +kernel
theorem dX3_rows_94 : decode cX3_rows 94 = .ok (.goto (-82), 3) := by decide +kernel
theorem dX3_rows_97 : decode cX3_rows 97 = .ok (.iload 5, 2) := by decide +kernel
theorem dX3_rows_99 : decode cX3_rows 99 = .ok (.ireturn, 1) := by decide +kernel
theorem dX3_winningTale_0 : decode cX3_winningTale 0 = .ok (.iconst 0, 1) := by decide +kernel
theorem dX3_winningTale_1 : decode cX3_winningTale 1 = .ok (.istore 5, 2) := by decide +kernel
theorem dX3_winningTale_3 : decode cX3_winningTale 3 = .ok (.iload 5, 2) := by decide +kernel
theorem dX3_winningTale_5 : decode cX3_winningTale 5 = .ok (.aload_n 0, 1) := by decide +kernel
theorem dX3_winningTale_6 : decode cX3_winningTale 6 = .ok (.getfield 34, 3) := by decide +kernel
theorem dX3_winningTale_9 : decode cX3_winningTale 9 = .ok (.if_icmp .ge 82, 3) := by decide +kernel
theorem dX3_winningTale_12 : decode cX3_winningTale 12 = .ok (.iload 4, 2) := by decide +kernel
theorem dX3_winningTale_14 : decode cX3_winningTale 14 = .ok (.bipush 7, 2) := by decide +kernel
theorem dX3_winningTale_16 : decode cX3_winningTale 16 = .ok (.if_icmp .ge 75, 3) := by decide +kernel
theorem dX3_winningTale_19 : decode cX3_winningTale 19 = .ok (.iload_n 1, 1) := by decide +kernel
theorem dX3_winningTale_20 : decode cX3_winningTale 20 = .ok (.iload 5, 2) := by decide +kernel
theorem dX3_winningTale_22 : decode cX3_winningTale 22 = .ok (.ishr, 1) := by decide +kernel
theorem dX3_winningTale_23 : decode cX3_winningTale 23 = .ok (.iconst 1, 1) := by decide +kernel
theorem dX3_winningTale_24 : decode cX3_winningTale 24 = .ok (.iand, 1) := by decide +kernel
theorem dX3_winningTale_25 : decode cX3_winningTale 25 = .ok (.ifCond .eq 60, 3) := by decide +kernel
theorem dX3_winningTale_28 : decode cX3_winningTale 28 = .ok (.aload_n 0, 1) := by decide +kernel
theorem dX3_winningTale_29 : decode cX3_winningTale 29 = .ok (.getfield 31, 3) := by decide +kernel
theorem dX3_winningTale_32 : decode cX3_winningTale 32 = .ok (.iload 5, 2) := by decide +kernel
theorem dX3_winningTale_34 : decode cX3_winningTale 34 = .ok (.iaload, 1) := by decide +kernel
theorem dX3_winningTale_35 : decode cX3_winningTale 35 = .ok (.iload_n 3, 1) := by decide +kernel
theorem dX3_winningTale_36 : decode cX3_winningTale 36 = .ok (.ishr, 1) := by decide +kernel
theorem dX3_winningTale_37 : decode cX3_winningTale 37 = .ok (.iconst 1, 1) := by decide +kernel
theorem dX3_winningTale_38 : decode cX3_winningTale 38 = .ok (.iand, 1) := by decide +kernel
theorem dX3_winningTale_39 : decode cX3_winningTale 39 = .ok (.ifCond .eq 46, 3) := by decide +kernel
theorem dX3_winningTale_42 : decode cX3_winningTale 42 = .ok (.aload_n 0, 1) := by decide +kernel
theorem dX3_winningTale_43 : decode cX3_winningTale 43 = .ok (.iload 5, 2) := by decide +kernel
theorem dX3_winningTale_45 : decode cX3_winningTale 45 = .ok (.iload_n 2, 1) := by decide +kernel
theorem dX3_winningTale_46 : decode cX3_winningTale 46 = .ok (.invokevirtual 155, 3) := by decide +kernel
theorem dX3_winningTale_49 : decode cX3_winningTale 49 = .ok (.istore 6, 2) := by decide +kernel
theorem dX3_winningTale_51 : decode cX3_winningTale 51 = .ok (.iload 6, 2) := by decide +kernel
theorem dX3_winningTale_53 : decode cX3_winningTale 53 = .ok (.iconst (-1), 1) := by decide +kernel
theorem dX3_winningTale_54 : decode cX3_winningTale 54 = .ok (.if_icmp .eq 31, 3) := by decide +kernel
theorem dX3_winningTale_57 : decode cX3_winningTale 57 = .ok (.aload_n 0, 1) := by decide +kernel
theorem dX3_winningTale_58 : decode cX3_winningTale 58 = .ok (.iload_n 1, 1) := by decide +kernel
theorem dX3_winningTale_59 : decode cX3_winningTale 59 = .ok (.iconst 1, 1) := by decide +kernel
theorem dX3_winningTale_60 : decode cX3_winningTale 60 = .ok (.iload 5, 2) := by decide +kernel
theorem dX3_winningTale_62 : decode cX3_winningTale 62 = .ok (.ishl, 1) := by decide +kernel
theorem dX3_winningTale_63 : decode cX3_winningTale 63 = .ok (.iconst (-1), 1) := by decide +kernel
theorem dX3_winningTale_64 : decode cX3_winningTale 64 = .ok (.ixor, 1) := by decide +kernel
theorem dX3_winningTale_65 : decode cX3_winningTale 65 = .ok (.iand, 1) := by decide +kernel
theorem dX3_winningTale_66 : decode cX3_winningTale 66 = .ok (.iload 6, 2) := by decide +kernel
theorem dX3_winningTale_68 : decode cX3_winningTale 68 = .ok (.iconst 1, 1) := by decide +kernel
theorem dX3_winningTale_69 : decode cX3_winningTale 69 = .ok (.iload_n 3, 1) := by decide +kernel
theorem dX3_winningTale_70 : decode cX3_winningTale 70 = .ok (.isub, 1) := by decide +kernel
theorem dX3_winningTale_71 : decode cX3_winningTale 71 = .ok (.iload 4, 2) := by decide +kernel
theorem dX3_winningTale_73 : decode cX3_winningTale 73 = .ok (.iconst 1, 1) := by decide +kernel
theorem dX3_winningTale_74 : decode cX3_winningTale 74 = .ok (.iadd, 1) := by decide +kernel
theorem dX3_winningTale_75 : decode cX3_winningTale 75 = .ok (.invokevirtual 192, 3) := by decide +kernel
theorem dX3_winningTale_78 : decode cX3_winningTale 78 = .ok (.iconst (-1), 1) := by decide +kernel
theorem dX3_winningTale_79 : decode cX3_winningTale 79 = .ok (.if_icmp .ne 6, 3) := by decide +kernel
theorem dX3_winningTale_82 : decode cX3_winningTale 82 = .ok (.iload 5, 2) := by decide +kernel
theorem dX3_winningTale_84 : decode cX3_winningTale 84 = .ok (.ireturn, 1) := by decide +kernel
theorem dX3_winningTale_85 : decode cX3_winningTale 85 = .ok (.iinc 5 1, 3) := by decide +kernel
theorem dX3_winningTale_88 : decode cX3_winningTale 88 = .ok (.goto (-85), 3) := by decide +kernel
theorem dX3_winningTale_91 : decode cX3_winningTale 91 = .ok (.iconst (-1), 1) := by decide +kernel
theorem dX3_winningTale_92 : decode cX3_winningTale 92 = .ok (.ireturn, 1) := by decide +kernel
theorem dX3_firstWrong_0 : decode cX3_firstWrong 0 = .ok (.iconst 0, 1) := by decide +kernel
theorem dX3_firstWrong_1 : decode cX3_firstWrong 1 = .ok (.istore_n 3, 1) := by decide +kernel
theorem dX3_firstWrong_2 : decode cX3_firstWrong 2 = .ok (.sipush 10000, 3) := by decide +kernel
theorem dX3_firstWrong_5 : decode cX3_firstWrong 5 = .ok (.istore 4, 2) := by decide +kernel
theorem dX3_firstWrong_7 : decode cX3_firstWrong 7 = .ok (.iconst 4, 1) := by decide +kernel
theorem dX3_firstWrong_8 : decode cX3_firstWrong 8 = .ok (.istore 5, 2) := by decide +kernel
theorem dX3_firstWrong_10 : decode cX3_firstWrong 10 = .ok (.iconst 0, 1) := by decide +kernel
theorem dX3_firstWrong_11 : decode cX3_firstWrong 11 = .ok (.istore 6, 2) := by decide +kernel
theorem dX3_firstWrong_13 : decode cX3_firstWrong 13 = .ok (.iload 6, 2) := by decide +kernel
theorem dX3_firstWrong_15 : decode cX3_firstWrong 15 = .ok (.aload_n 1, 1) := by decide +kernel
theorem dX3_firstWrong_16 : decode cX3_firstWrong 16 = .ok (.getfield 173, 3) := by decide +kernel
theorem dX3_firstWrong_19 : decode cX3_firstWrong 19 = .ok (.if_icmp .ge 154, 3) := by decide +kernel
theorem dX3_firstWrong_22 : decode cX3_firstWrong 22 = .ok (.iload 6, 2) := by decide +kernel
theorem dX3_firstWrong_24 : decode cX3_firstWrong 24 = .ok (.iload_n 2, 1) := by decide +kernel
theorem dX3_firstWrong_25 : decode cX3_firstWrong 25 = .ok (.if_icmp .ne 6, 3) := by decide +kernel
theorem dX3_firstWrong_28 : decode cX3_firstWrong 28 = .ok (.goto 139, 3) := by decide +kernel
theorem dX3_firstWrong_31 : decode cX3_firstWrong 31 = .ok (.aload_n 1, 1) := by decide +kernel
theorem dX3_firstWrong_32 : decode cX3_firstWrong 32 = .ok (.getfield 176, 3) := by decide +kernel
theorem dX3_firstWrong_35 : decode cX3_firstWrong 35 = .ok (.iload 6, 2) := by decide +kernel
theorem dX3_firstWrong_37 : decode cX3_firstWrong 37 = .ok (.iaload, 1) := by decide +kernel
theorem dX3_firstWrong_38 : decode cX3_firstWrong 38 = .ok (.istore 7, 2) := by decide +kernel
theorem dX3_firstWrong_40 : decode cX3_firstWrong 40 = .ok (.aload_n 1, 1) := by decide +kernel
theorem dX3_firstWrong_41 : decode cX3_firstWrong 41 = .ok (.getfield 195, 3) := by decide +kernel
theorem dX3_firstWrong_44 : decode cX3_firstWrong 44 = .ok (.iload 6, 2) := by decide +kernel
theorem dX3_firstWrong_46 : decode cX3_firstWrong 46 = .ok (.iaload, 1) := by decide +kernel
theorem dX3_firstWrong_47 : decode cX3_firstWrong 47 = .ok (.istore 8, 2) := by decide +kernel
theorem dX3_firstWrong_49 : decode cX3_firstWrong 49 = .ok (.iload 8, 2) := by decide +kernel
theorem dX3_firstWrong_51 : decode cX3_firstWrong 51 = .ok (.aload_n 0, 1) := by decide +kernel
theorem dX3_firstWrong_52 : decode cX3_firstWrong 52 = .ok (.getfield 18, 3) := by decide +kernel
theorem dX3_firstWrong_55 : decode cX3_firstWrong 55 = .ok (.iload 7, 2) := by decide +kernel
theorem dX3_firstWrong_57 : decode cX3_firstWrong 57 = .ok (.iaload, 1) := by decide +kernel
theorem dX3_firstWrong_58 : decode cX3_firstWrong 58 = .ok (.if_icmp .lt 34, 3) := by decide +kernel
theorem dX3_firstWrong_61 : decode cX3_firstWrong 61 = .ok (.iload 8, 2) := by decide +kernel
theorem dX3_firstWrong_63 : decode cX3_firstWrong 63 = .ok (.aload_n 0, 1) := by decide +kernel
theorem dX3_firstWrong_64 : decode cX3_firstWrong 64 = .ok (.getfield 22, 3) := by decide +kernel
theorem dX3_firstWrong_67 : decode cX3_firstWrong 67 = .ok (.iload 7, 2) := by decide +kernel
theorem dX3_firstWrong_69 : decode cX3_firstWrong 69 = .ok (.iaload, 1) := by decide +kernel
theorem dX3_firstWrong_70 : decode cX3_firstWrong 70 = .ok (.if_icmp .gt 22, 3) := by decide +kernel
theorem dX3_firstWrong_73 : decode cX3_firstWrong 73 = .ok (.iload 8, 2) := by decide +kernel
theorem dX3_firstWrong_75 : decode cX3_firstWrong 75 = .ok (.iload 4, 2) := by decide +kernel
theorem dX3_firstWrong_77 : decode cX3_firstWrong 77 = .ok (.aload_n 0, 1) := by decide +kernel
theorem dX3_firstWrong_78 : decode cX3_firstWrong 78 = .ok (.getfield 28, 3) := by decide +kernel
theorem dX3_firstWrong_81 : decode cX3_firstWrong 81 = .ok (.iload 7, 2) := by decide +kernel
theorem dX3_firstWrong_83 : decode cX3_firstWrong 83 = .ok (.iaload, 1) := by decide +kernel
theorem dX3_firstWrong_84 : decode cX3_firstWrong 84 = .ok (.isub, 1) := by decide +kernel
theorem dX3_firstWrong_85 : decode cX3_firstWrong 85 = .ok (.if_icmp .gt 7, 3) := by decide +kernel
theorem dX3_firstWrong_88 : decode cX3_firstWrong 88 = .ok (.iconst 1, 1) := by decide +kernel
theorem dX3_firstWrong_89 : decode cX3_firstWrong 89 = .ok (.goto 4, 3) := by decide +kernel
theorem dX3_firstWrong_92 : decode cX3_firstWrong 92 = .ok (.iconst 0, 1) := by decide +kernel
theorem dX3_firstWrong_93 : decode cX3_firstWrong 93 = .ok (.istore 9, 2) := by decide +kernel
theorem dX3_firstWrong_95 : decode cX3_firstWrong 95 = .ok (.aload_n 0, 1) := by decide +kernel
theorem dX3_firstWrong_96 : decode cX3_firstWrong 96 = .ok (.iload 7, 2) := by decide +kernel
theorem dX3_firstWrong_98 : decode cX3_firstWrong 98 = .ok (.iconst 1, 1) := by decide +kernel
theorem dX3_firstWrong_99 : decode cX3_firstWrong 99 = .ok (.iload 5, 2) := by decide +kernel
theorem dX3_firstWrong_101 : decode cX3_firstWrong 101 = .ok (.ishl, 1) := by decide +kernel
theorem dX3_firstWrong_102 : decode cX3_firstWrong 102 = .ok (.invokevirtual 158, 3) := by decide +kernel
theorem dX3_firstWrong_105 : decode cX3_firstWrong 105 = .ok (.aload_n 1, 1) := by decide +kernel
theorem dX3_firstWrong_106 : decode cX3_firstWrong 106 = .ok (.getfield 185, 3) := by decide +kernel
theorem dX3_firstWrong_109 : decode cX3_firstWrong 109 = .ok (.iload 6, 2) := by decide +kernel
theorem dX3_firstWrong_111 : decode cX3_firstWrong 111 = .ok (.iaload, 1) := by decide +kernel
theorem dX3_firstWrong_112 : decode cX3_firstWrong 112 = .ok (.ishr, 1) := by decide +kernel
theorem dX3_firstWrong_113 : decode cX3_firstWrong 113 = .ok (.iconst 1, 1) := by decide +kernel
theorem dX3_firstWrong_114 : decode cX3_firstWrong 114 = .ok (.iand, 1) := by decide +kernel
theorem dX3_firstWrong_115 : decode cX3_firstWrong 115 = .ok (.ifCond .eq 7, 3) := by decide +kernel
theorem dX3_firstWrong_118 : decode cX3_firstWrong 118 = .ok (.iconst 1, 1) := by decide +kernel
theorem dX3_firstWrong_119 : decode cX3_firstWrong 119 = .ok (.goto 4, 3) := by decide +kernel
theorem dX3_firstWrong_122 : decode cX3_firstWrong 122 = .ok (.iconst 0, 1) := by decide +kernel
theorem dX3_firstWrong_123 : decode cX3_firstWrong 123 = .ok (.istore 10, 2) := by decide +kernel
theorem dX3_firstWrong_125 : decode cX3_firstWrong 125 = .ok (.iload 9, 2) := by decide +kernel
theorem dX3_firstWrong_127 : decode cX3_firstWrong 127 = .ok (.ifCond .eq 17, 3) := by decide +kernel
theorem dX3_firstWrong_130 : decode cX3_firstWrong 130 = .ok (.iload 10, 2) := by decide +kernel
theorem dX3_firstWrong_132 : decode cX3_firstWrong 132 = .ok (.ifCond .eq 12, 3) := by decide +kernel
theorem dX3_firstWrong_135 : decode cX3_firstWrong 135 = .ok (.iload_n 3, 1) := by decide +kernel
theorem dX3_firstWrong_136 : decode cX3_firstWrong 136 = .ok (.iload 7, 2) := by decide +kernel
theorem dX3_firstWrong_138 : decode cX3_firstWrong 138 = .ok (.ishr, 1) := by decide +kernel
theorem dX3_firstWrong_139 : decode cX3_firstWrong 139 = .ok (.iconst 1, 1) := by decide +kernel
theorem dX3_firstWrong_140 : decode cX3_firstWrong 140 = .ok (.iand, 1) := by decide +kernel
theorem dX3_firstWrong_141 : decode cX3_firstWrong 141 = .ok (.ifCond .eq 6, 3) := by decide +kernel
theorem dX3_firstWrong_144 : decode cX3_firstWrong 144 = .ok (.iload 6, 2) := by decide +kernel
theorem dX3_firstWrong_146 : decode cX3_firstWrong 146 = .ok (.ireturn, 1) := by decide +kernel
theorem dX3_firstWrong_147 : decode cX3_firstWrong 147 = .ok (.iload_n 3, 1) := by decide +kernel
theorem dX3_firstWrong_148 : decode cX3_firstWrong 148 = .ok (.iconst 1, 1) := by decide +kernel
theorem dX3_firstWrong_149 : decode cX3_firstWrong 149 = .ok (.iload 7, 2) := by decide +kernel
theorem dX3_firstWrong_151 : decode cX3_firstWrong 151 = .ok (.ishl, 1) := by decide +kernel
theorem dX3_firstWrong_152 : decode cX3_firstWrong 152 = .ok (.ior, 1) := by decide +kernel
theorem dX3_firstWrong_153 : decode cX3_firstWrong 153 = .ok (.istore_n 3, 1) := by decide +kernel
theorem dX3_firstWrong_154 : decode cX3_firstWrong 154 = .ok (.iload 8, 2) := by decide +kernel
theorem dX3_firstWrong_156 : decode cX3_firstWrong 156 = .ok (.istore 4, 2) := by decide +kernel
theorem dX3_firstWrong_158 : decode cX3_firstWrong 158 = .ok (.aload_n 1, 1) := by decide +kernel
theorem dX3_firstWrong_159 : decode cX3_firstWrong 159 = .ok (.getfield 185, 3) := by decide +kernel
theorem dX3_firstWrong_162 : decode cX3_firstWrong 162 = .ok (.iload 6, 2) := by decide +kernel
theorem dX3_firstWrong_164 : decode cX3_firstWrong 164 = .ok (.iaload, 1) := by decide +kernel
theorem dX3_firstWrong_165 : decode cX3_firstWrong 165 = .ok (.istore 5, 2) := by decide +kernel
theorem dX3_firstWrong_167 : decode cX3_firstWrong 167 = .ok (.iinc 6 1, 3) := by decide +kernel
theorem dX3_firstWrong_170 : decode cX3_firstWrong 170 = .ok (.goto (-157), 3) := by decide +kernel
theorem dX3_firstWrong_173 : decode cX3_firstWrong 173 = .ok (.iconst (-1), 1) := by decide +kernel
theorem dX3_firstWrong_174 : decode cX3_firstWrong 174 = .ok (.ireturn, 1) := by decide +kernel
theorem dX3_listChoices_0 : decode cX3_listChoices 0 = .ok (.iconst 0, 1) := by decide +kernel
theorem dX3_listChoices_1 : decode cX3_listChoices 1 = .ok (.istore 5, 2) := by decide +kernel
theorem dX3_listChoices_3 : decode cX3_listChoices 3 = .ok (.iconst 0, 1) := by decide +kernel
theorem dX3_listChoices_4 : decode cX3_listChoices 4 = .ok (.istore 6, 2) := by decide +kernel
theorem dX3_listChoices_6 : decode cX3_listChoices 6 = .ok (.iload 6, 2) := by decide +kernel
theorem dX3_listChoices_8 : decode cX3_listChoices 8 = .ok (.aload_n 0, 1) := by decide +kernel
theorem dX3_listChoices_9 : decode cX3_listChoices 9 = .ok (.getfield 34, 3) := by decide +kernel
theorem dX3_listChoices_12 : decode cX3_listChoices 12 = .ok (.if_icmp .ge 91, 3) := by decide +kernel
theorem dX3_listChoices_15 : decode cX3_listChoices 15 = .ok (.iload_n 1, 1) := by decide +kernel
theorem dX3_listChoices_16 : decode cX3_listChoices 16 = .ok (.iload 6, 2) := by decide +kernel
theorem dX3_listChoices_18 : decode cX3_listChoices 18 = .ok (.ishr, 1) := by decide +kernel
theorem dX3_listChoices_19 : decode cX3_listChoices 19 = .ok (.iconst 1, 1) := by decide +kernel
theorem dX3_listChoices_20 : decode cX3_listChoices 20 = .ok (.iand, 1) := by decide +kernel
theorem dX3_listChoices_21 : decode cX3_listChoices 21 = .ok (.ifCond .eq 76, 3) := by decide +kernel
theorem dX3_listChoices_24 : decode cX3_listChoices 24 = .ok (.aload_n 0, 1) := by decide +kernel
theorem dX3_listChoices_25 : decode cX3_listChoices 25 = .ok (.iload 6, 2) := by decide +kernel
theorem dX3_listChoices_27 : decode cX3_listChoices 27 = .ok (.iload_n 2, 1) := by decide +kernel
theorem dX3_listChoices_28 : decode cX3_listChoices 28 = .ok (.invokevirtual 155, 3) := by decide +kernel
theorem dX3_listChoices_31 : decode cX3_listChoices 31 = .ok (.iconst (-1), 1) := by decide +kernel
theorem dX3_listChoices_32 : decode cX3_listChoices 32 = .ok (.if_icmp .ne 6, 3) := by decide +kernel
theorem dX3_listChoices_35 : decode cX3_listChoices 35 = .ok (.goto 62, 3) := by decide +kernel
theorem dX3_listChoices_38 : decode cX3_listChoices 38 = .ok (.aload_n 0, 1) := by decide +kernel
theorem dX3_listChoices_39 : decode cX3_listChoices 39 = .ok (.iload 6, 2) := by decide +kernel
theorem dX3_listChoices_41 : decode cX3_listChoices 41 = .ok (.iconst 1, 1) := by decide +kernel
theorem dX3_listChoices_42 : decode cX3_listChoices 42 = .ok (.iload_n 3, 1) := by decide +kernel
theorem dX3_listChoices_43 : decode cX3_listChoices 43 = .ok (.ishl, 1) := by decide +kernel
theorem dX3_listChoices_44 : decode cX3_listChoices 44 = .ok (.invokevirtual 158, 3) := by decide +kernel
theorem dX3_listChoices_47 : decode cX3_listChoices 47 = .ok (.istore 7, 2) := by decide +kernel
theorem dX3_listChoices_49 : decode cX3_listChoices 49 = .ok (.iconst 0, 1) := by decide +kernel
theorem dX3_listChoices_50 : decode cX3_listChoices 50 = .ok (.istore 8, 2) := by decide +kernel
theorem dX3_listChoices_52 : decode cX3_listChoices 52 = .ok (.iload 8, 2) := by decide +kernel
theorem dX3_listChoices_54 : decode cX3_listChoices 54 = .ok (.iconst 4, 1) := by decide +kernel
theorem dX3_listChoices_55 : decode cX3_listChoices 55 = .ok (.if_icmp .ge 42, 3) := by decide +kernel
theorem dX3_listChoices_58 : decode cX3_listChoices 58 = .ok (.iload 7, 2) := by decide +kernel
theorem dX3_listChoices_60 : decode cX3_listChoices 60 = .ok (.iload 8, 2) := by decide +kernel
theorem dX3_listChoices_62 : decode cX3_listChoices 62 = .ok (.ishr, 1) := by decide +kernel
theorem dX3_listChoices_63 : decode cX3_listChoices 63 = .ok (.iconst 1, 1) := by decide +kernel
theorem dX3_listChoices_64 : decode cX3_listChoices 64 = .ok (.iand, 1) := by decide +kernel
theorem dX3_listChoices_65 : decode cX3_listChoices 65 = .ok (.ifCond .eq 26, 3) := by decide +kernel
theorem dX3_listChoices_68 : decode cX3_listChoices 68 = .ok (.iload 5, 2) := by decide +kernel
theorem dX3_listChoices_70 : decode cX3_listChoices 70 = .ok (.aload 4, 2) := by decide +kernel
theorem dX3_listChoices_72 : decode cX3_listChoices 72 = .ok (.arraylength, 1) := by decide +kernel
theorem dX3_listChoices_73 : decode cX3_listChoices 73 = .ok (.if_icmp .ge 18, 3) := by decide +kernel
theorem dX3_listChoices_76 : decode cX3_listChoices 76 = .ok (.aload 4, 2) := by decide +kernel
theorem dX3_listChoices_78 : decode cX3_listChoices 78 = .ok (.iload 5, 2) := by decide +kernel
theorem dX3_listChoices_80 : decode cX3_listChoices 80 = .ok (.iload 6, 2) := by decide +kernel
theorem dX3_listChoices_82 : decode cX3_listChoices 82 = .ok (.iconst 4, 1) := by decide +kernel
theorem dX3_listChoices_83 : decode cX3_listChoices 83 = .ok (.imul, 1) := by decide +kernel
theorem dX3_listChoices_84 : decode cX3_listChoices 84 = .ok (.iload 8, 2) := by decide +kernel
theorem dX3_listChoices_86 : decode cX3_listChoices 86 = .ok (.iadd, 1) := by decide +kernel
theorem dX3_listChoices_87 : decode cX3_listChoices 87 = .ok (.iastore, 1) := by decide +kernel
theorem dX3_listChoices_88 : decode cX3_listChoices 88 = .ok (.iinc 5 1, 3) := by decide +kernel
theorem dX3_listChoices_91 : decode cX3_listChoices 91 = .ok (.iinc 8 1, 3) := by decide +kernel
theorem dX3_listChoices_94 : decode cX3_listChoices 94 = .ok (.goto (-42), 3) := by decide +kernel
theorem dX3_listChoices_97 : decode cX3_listChoices 97 = .ok (.iinc 6 1, 3) := by decide +kernel
theorem dX3_listChoices_100 : decode cX3_listChoices 100 = .ok (.goto (-94), 3) := by decide +kernel
theorem dX3_listChoices_103 : decode cX3_listChoices 103 = .ok (.iload 5, 2) := by decide +kernel
theorem dX3_listChoices_105 : decode cX3_listChoices 105 = .ok (.ireturn, 1) := by decide +kernel
theorem dX4_init_0 : decode cX4_init 0 = .ok (.aload_n 0, 1) := by decide +kernel
theorem dX4_init_1 : decode cX4_init 1 = .ok (.invokespecial 3, 3) := by decide +kernel
theorem dX4_init_4 : decode cX4_init 4 = .ok (.aload_n 0, 1) := by decide +kernel
theorem dX4_init_5 : decode cX4_init 5 = .ok (.sipush 401, 3) := by decide +kernel
theorem dX4_init_8 : decode cX4_init 8 = .ok (.newarray .int, 2) := by decide +kernel
theorem dX4_init_10 : decode cX4_init 10 = .ok (.putfield 9, 3) := by decide +kernel
theorem dX4_init_13 : decode cX4_init 13 = .ok (.aload_n 0, 1) := by decide +kernel
theorem dX4_init_14 : decode cX4_init 14 = .ok (.sipush 401, 3) := by decide +kernel
theorem dX4_init_17 : decode cX4_init 17 = .ok (.newarray .int, 2) := by decide +kernel
theorem dX4_init_19 : decode cX4_init 19 = .ok (.putfield 15, 3) := by decide +kernel
theorem dX4_init_22 : decode cX4_init 22 = .ok (.aload_n 0, 1) := by decide +kernel
theorem dX4_init_23 : decode cX4_init 23 = .ok (.sipush 401, 3) := by decide +kernel
theorem dX4_init_26 : decode cX4_init 26 = .ok (.newarray .int, 2) := by decide +kernel
theorem dX4_init_28 : decode cX4_init 28 = .ok (.putfield 18, 3) := by decide +kernel
theorem dX4_init_31 : decode cX4_init 31 = .ok (.aload_n 0, 1) := by decide +kernel
theorem dX4_init_32 : decode cX4_init 32 = .ok (.iconst 0, 1) := by decide +kernel
theorem dX4_init_33 : decode cX4_init 33 = .ok (.putfield 21, 3) := by decide +kernel
theorem dX4_init_36 : decode cX4_init 36 = .ok (.aload_n 0, 1) := by decide +kernel
theorem dX4_init_37 : decode cX4_init 37 = .ok (.bipush 12, 2) := by decide +kernel
theorem dX4_init_39 : decode cX4_init 39 = .ok (.newarray .int, 2) := by decide +kernel
theorem dX4_init_41 : decode cX4_init 41 = .ok (.putfield 25, 3) := by decide +kernel
theorem dX4_init_44 : decode cX4_init 44 = .ok (.aload_n 0, 1) := by decide +kernel
theorem dX4_init_45 : decode cX4_init 45 = .ok (.bipush 12, 2) := by decide +kernel
theorem dX4_init_47 : decode cX4_init 47 = .ok (.newarray .int, 2) := by decide +kernel
theorem dX4_init_49 : decode cX4_init 49 = .ok (.putfield 28, 3) := by decide +kernel
theorem dX4_init_52 : decode cX4_init 52 = .ok (.aload_n 0, 1) := by decide +kernel
theorem dX4_init_53 : decode cX4_init 53 = .ok (.iconst 0, 1) := by decide +kernel
theorem dX4_init_54 : decode cX4_init 54 = .ok (.putfield 31, 3) := by decide +kernel
theorem dX4_init_57 : decode cX4_init 57 = .ok (.aload_n 0, 1) := by decide +kernel
theorem dX4_init_58 : decode cX4_init 58 = .ok (.sipush 424, 3) := by decide +kernel
theorem dX4_init_61 : decode cX4_init 61 = .ok (.newarray .int, 2) := by decide +kernel
theorem dX4_init_63 : decode cX4_init 63 = .ok (.putfield 34, 3) := by decide +kernel
theorem dX4_init_66 : decode cX4_init 66 = .ok (.aload_n 0, 1) := by decide +kernel
theorem dX4_init_67 : decode cX4_init 67 = .ok (.sipush 424, 3) := by decide +kernel
theorem dX4_init_70 : decode cX4_init 70 = .ok (.newarray .int, 2) := by decide +kernel
theorem dX4_init_72 : decode cX4_init 72 = .ok (.putfield 37, 3) := by decide +kernel
theorem dX4_init_75 : decode cX4_init 75 = .ok (.aload_n 0, 1) := by decide +kernel
theorem dX4_init_76 : decode cX4_init 76 = .ok (.iconst 0, 1) := by decide +kernel
theorem dX4_init_77 : decode cX4_init 77 = .ok (.putfield 40, 3) := by decide +kernel
theorem dX4_init_80 : decode cX4_init 80 = .ok (.aload_n 0, 1) := by decide +kernel
theorem dX4_init_81 : decode cX4_init 81 = .ok (.iconst 0, 1) := by decide +kernel
theorem dX4_init_82 : decode cX4_init 82 = .ok (.putfield 43, 3) := by decide +kernel
theorem dX4_init_85 : decode cX4_init 85 = .ok (.aload_n 0, 1) := by decide +kernel
theorem dX4_init_86 : decode cX4_init 86 = .ok (.iconst (-1), 1) := by decide +kernel
theorem dX4_init_87 : decode cX4_init 87 = .ok (.putfield 46, 3) := by decide +kernel
theorem dX4_init_90 : decode cX4_init 90 = .ok (.return_, 1) := by decide +kernel
theorem dX4_read_0 : decode cX4_read 0 = .ok (.aload_n 0, 1) := by decide +kernel
theorem dX4_read_1 : decode cX4_read 1 = .ok (.aload_n 1, 1) := by decide +kernel
theorem dX4_read_2 : decode cX4_read 2 = .ok (.iload_n 2, 1) := by decide +kernel
theorem dX4_read_3 : decode cX4_read 3 = .ok (.invokevirtual 49, 3) := by decide +kernel
theorem dX4_read_6 : decode cX4_read 6 = .ok (.aload_n 0, 1) := by decide +kernel
theorem dX4_read_7 : decode cX4_read 7 = .ok (.iconst 0, 1) := by decide +kernel
theorem dX4_read_8 : decode cX4_read 8 = .ok (.putfield 21, 3) := by decide +kernel
theorem dX4_read_11 : decode cX4_read 11 = .ok (.aload_n 0, 1) := by decide +kernel
theorem dX4_read_12 : decode cX4_read 12 = .ok (.iconst 0, 1) := by decide +kernel
theorem dX4_read_13 : decode cX4_read 13 = .ok (.putfield 31, 3) := by decide +kernel
theorem dX4_read_16 : decode cX4_read 16 = .ok (.aload_n 0, 1) := by decide +kernel
theorem dX4_read_17 : decode cX4_read 17 = .ok (.iconst 0, 1) := by decide +kernel
theorem dX4_read_18 : decode cX4_read 18 = .ok (.putfield 40, 3) := by decide +kernel
theorem dX4_read_21 : decode cX4_read 21 = .ok (.aload_n 0, 1) := by decide +kernel
theorem dX4_read_22 : decode cX4_read 22 = .ok (.iconst 0, 1) := by decide +kernel
theorem dX4_read_23 : decode cX4_read 23 = .ok (.putfield 43, 3) := by decide +kernel
theorem dX4_read_26 : decode cX4_read 26 = .ok (.aload_n 0, 1) := by decide +kernel
theorem dX4_read_27 : decode cX4_read 27 = .ok (.iconst (-1), 1) := by decide +kernel
theorem dX4_read_28 : decode cX4_read 28 = .ok (.putfield 46, 3) := by decide +kernel
theorem dX4_read_31 : decode cX4_read 31 = .ok (.iconst 1, 1) := by decide +kernel
theorem dX4_read_32 : decode cX4_read 32 = .ok (.istore_n 3, 1) := by decide +kernel
theorem dX4_read_33 : decode cX4_read 33 = .ok (.iconst 0, 1) := by decide +kernel
theorem dX4_read_34 : decode cX4_read 34 = .ok (.istore 4, 2) := by decide +kernel
theorem dX4_read_36 : decode cX4_read 36 = .ok (.iload 4, 2) := by decide +kernel
theorem dX4_read_38 : decode cX4_read 38 = .ok (.bipush 12, 2) := by decide +kernel
theorem dX4_read_40 : decode cX4_read 40 = .ok (.if_icmp .gt 24, 3) := by decide +kernel
theorem dX4_read_43 : decode cX4_read 43 = .ok (.iload_n 3, 1) := by decide +kernel
theorem dX4_read_44 : decode cX4_read 44 = .ok (.ifCond .eq 20, 3) := by decide +kernel
theorem dX4_read_47 : decode cX4_read 47 = .ok (.aload_n 0, 1) := by decide +kernel
theorem dX4_read_48 : decode cX4_read 48 = .ok (.invokevirtual 53, 3) := by decide +kernel
theorem dX4_read_51 : decode cX4_read 51 = .ok (.aload_n 0, 1) := by decide +kernel
theorem dX4_read_52 : decode cX4_read 52 = .ok (.bipush 59, 2) := by decide +kernel
theorem dX4_read_54 : decode cX4_read 54 = .ok (.invokevirtual 56, 3) := by decide +kernel
theorem dX4_read_57 : decode cX4_read 57 = .ok (.istore_n 3, 1) := by decide +kernel
theorem dX4_read_58 : decode cX4_read 58 = .ok (.iinc 4 1, 3) := by decide +kernel
theorem dX4_read_61 : decode cX4_read 61 = .ok (.goto (-25), 3) := by decide +kernel
theorem dX4_read_64 : decode cX4_read 64 = .ok (.aload_n 0, 1) := by decide +kernel
theorem dX4_read_65 : decode cX4_read 65 = .ok (.invokevirtual 60, 3) := by decide +kernel
theorem dX4_read_68 : decode cX4_read 68 = .ok (.sipush 283, 3) := by decide +kernel
theorem dX4_read_71 : decode cX4_read 71 = .ok (.if_icmp .eq 7, 3) := by decide +kernel
theorem dX4_read_74 : decode cX4_read 74 = .ok (.aload_n 0, 1) := by decide +kernel
theorem dX4_read_75 : decode cX4_read 75 = .ok (.invokevirtual 64, 3) := by decide +kernel
theorem dX4_read_78 : decode cX4_read 78 = .ok (.aload_n 0, 1) := by decide +kernel
theorem dX4_read_79 : decode cX4_read 79 = .ok (.getfield 46, 3) := by decide +kernel
theorem dX4_read_82 : decode cX4_read 82 = .ok (.iconst (-1), 1) := by decide +kernel
theorem dX4_read_83 : decode cX4_read 83 = .ok (.if_icmp .eq 5, 3) := by decide +kernel
theorem dX4_read_86 : decode cX4_read 86 = .ok (.aconst_null, 1) := by decide +kernel
theorem dX4_read_87 : decode cX4_read 87 = .ok (.areturn, 1) := by decide +kernel
theorem dX4_read_88 : decode cX4_read 88 = .ok (.new 67, 3) := by decide +kernel
theorem dX4_read_91 : decode cX4_read 91 = .ok (.dup, 1) := by decide +kernel
theorem dX4_read_92 : decode cX4_read 92 = .ok (.aload_n 0, 1) := by decide +kernel
theorem dX4_read_93 : decode cX4_read 93 = .ok (.getfield 25, 3) := by decide +kernel
theorem dX4_read_96 : decode cX4_read 96 = .ok (.aload_n 0, 1) := by decide +kernel
theorem dX4_read_97 : decode cX4_read 97 = .ok (.getfield 31, 3) := by decide +kernel
theorem dX4_read_100 : decode cX4_read 100 = .ok (.invokestatic 69, 3) := by decide +kernel
theorem dX4_read_103 : decode cX4_read 103 = .ok (.aload_n 0, 1) := by decide +kernel
theorem dX4_read_104 : decode cX4_read 104 = .ok (.getfield 28, 3) := by decide +kernel
theorem dX4_read_107 : decode cX4_read 107 = .ok (.aload_n 0, 1) := by decide +kernel
theorem dX4_read_108 : decode cX4_read 108 = .ok (.getfield 31, 3) := by decide +kernel
theorem dX4_read_111 : decode cX4_read 111 = .ok (.invokestatic 69, 3) := by decide +kernel
theorem dX4_read_114 : decode cX4_read 114 = .ok (.aload_n 0, 1) := by decide +kernel
theorem dX4_read_115 : decode cX4_read 115 = .ok (.getfield 34, 3) := by decide +kernel
theorem dX4_read_118 : decode cX4_read 118 = .ok (.aload_n 0, 1) := by decide +kernel
theorem dX4_read_119 : decode cX4_read 119 = .ok (.getfield 40, 3) := by decide +kernel
theorem dX4_read_122 : decode cX4_read 122 = .ok (.invokestatic 69, 3) := by decide +kernel
theorem dX4_read_125 : decode cX4_read 125 = .ok (.aload_n 0, 1) := by decide +kernel
theorem dX4_read_126 : decode cX4_read 126 = .ok (.getfield 37, 3) := by decide +kernel
theorem dX4_read_129 : decode cX4_read 129 = .ok (.aload_n 0, 1) := by decide +kernel
theorem dX4_read_130 : decode cX4_read 130 = .ok (.getfield 40, 3) := by decide +kernel
theorem dX4_read_133 : decode cX4_read 133 = .ok (.invokestatic 69, 3) := by decide +kernel
theorem dX4_read_136 : decode cX4_read 136 = .ok (.invokespecial 75, 3) := by decide +kernel
theorem dX4_read_139 : decode cX4_read 139 = .ok (.areturn, 1) := by decide +kernel
theorem dX4_split_0 : decode cX4_split 0 = .ok (.iconst 0, 1) := by decide +kernel
theorem dX4_split_1 : decode cX4_split 1 = .ok (.istore_n 3, 1) := by decide +kernel
theorem dX4_split_2 : decode cX4_split 2 = .ok (.iconst 0, 1) := by decide +kernel
theorem dX4_split_3 : decode cX4_split 3 = .ok (.istore 4, 2) := by decide +kernel
theorem dX4_split_5 : decode cX4_split 5 = .ok (.iconst 0, 1) := by decide +kernel
theorem dX4_split_6 : decode cX4_split 6 = .ok (.istore 5, 2) := by decide +kernel
theorem dX4_split_8 : decode cX4_split 8 = .ok (.iload 5, 2) := by decide +kernel
theorem dX4_split_10 : decode cX4_split 10 = .ok (.sipush 400, 3) := by decide +kernel
theorem dX4_split_13 : decode cX4_split 13 = .ok (.if_icmp .ge 136, 3) := by decide +kernel
theorem dX4_split_16 : decode cX4_split 16 = .ok (.iload 4, 2) := by decide +kernel
theorem dX4_split_18 : decode cX4_split 18 = .ok (.iload_n 2, 1) := by decide +kernel
theorem dX4_split_19 : decode cX4_split 19 = .ok (.if_icmp .ge 130, 3) := by decide +kernel
theorem dX4_split_22 : decode cX4_split 22 = .ok (.iload 4, 2) := by decide +kernel
theorem dX4_split_24 : decode cX4_split 24 = .ok (.iconst 1, 1) := by decide +kernel
theorem dX4_split_25 : decode cX4_split 25 = .ok (.iadd, 1) := by decide +kernel
theorem dX4_split_26 : decode cX4_split 26 = .ok (.istore 6, 2) := by decide +kernel
theorem dX4_split_28 : decode cX4_split 28 = .ok (.aload_n 1, 1) := by decide +kernel
theorem dX4_split_29 : decode cX4_split 29 = .ok (.iload 4, 2) := by decide +kernel
theorem dX4_split_31 : decode cX4_split 31 = .ok (.iaload, 1) := by decide +kernel
theorem dX4_split_32 : decode cX4_split 32 = .ok (.istore 7, 2) := by decide +kernel
theorem dX4_split_34 : decode cX4_split 34 = .ok (.iload 7, 2) := by decide +kernel
theorem dX4_split_36 : decode cX4_split 36 = .ok (.invokestatic 78, 3) := by decide +kernel
theorem dX4_split_39 : decode cX4_split 39 = .ok (.ifCond .eq 30, 3) := by decide +kernel
theorem dX4_split_42 : decode cX4_split 42 = .ok (.aload_n 1, 1) := by decide +kernel
theorem dX4_split_43 : decode cX4_split 43 = .ok (.iload 4, 2) := by decide +kernel
theorem dX4_split_45 : decode cX4_split 45 = .ok (.iload_n 2, 1) := by decide +kernel
theorem dX4_split_46 : decode cX4_split 46 = .ok (.iconst 1, 1) := by decide +kernel
theorem dX4_split_47 : decode cX4_split 47 = .ok (.invokestatic 81, 3) := by decide +kernel
theorem dX4_split_50 : decode cX4_split 50 = .ok (.istore 6, 2) := by decide +kernel
theorem dX4_split_52 : decode cX4_split 52 = .ok (.aload_n 0, 1) := by decide +kernel
theorem dX4_split_53 : decode cX4_split 53 = .ok (.getfield 9, 3) := by decide +kernel
theorem dX4_split_56 : decode cX4_split 56 = .ok (.iload_n 3, 1) := by decide +kernel
theorem dX4_split_57 : decode cX4_split 57 = .ok (.aload_n 1, 1) := by decide +kernel
theorem dX4_split_58 : decode cX4_split 58 = .ok (.iload 4, 2) := by decide +kernel
theorem dX4_split_60 : decode cX4_split 60 = .ok (.iload 6, 2) := by decide +kernel
theorem dX4_split_62 : decode cX4_split 62 = .ok (.invokestatic 85, 3) := by decide +kernel
theorem dX4_split_65 : decode cX4_split 65 = .ok (.iastore, 1) := by decide +kernel
theorem dX4_split_66 : decode cX4_split 66 = .ok (.goto 55, 3) := by decide +kernel
theorem dX4_split_69 : decode cX4_split 69 = .ok (.iload 7, 2) := by decide +kernel
theorem dX4_split_71 : decode cX4_split 71 = .ok (.invokestatic 89, 3) := by decide +kernel
theorem dX4_split_74 : decode cX4_split 74 = .ok (.ifCond .eq 39, 3) := by decide +kernel
theorem dX4_split_77 : decode cX4_split 77 = .ok (.aload_n 1, 1) := by decide +kernel
theorem dX4_split_78 : decode cX4_split 78 = .ok (.iload 4, 2) := by decide +kernel
theorem dX4_split_80 : decode cX4_split 80 = .ok (.iload_n 2, 1) := by decide +kernel
theorem dX4_split_81 : decode cX4_split 81 = .ok (.iconst 0, 1) := by decide +kernel
theorem dX4_split_82 : decode cX4_split 82 = .ok (.invokestatic 81, 3) := by decide +kernel
theorem dX4_split_85 : decode cX4_split 85 = .ok (.istore 6, 2) := by decide +kernel
theorem dX4_split_87 : decode cX4_split 87 = .ok (.aload_n 0, 1) := by decide +kernel
theorem dX4_split_88 : decode cX4_split 88 = .ok (.getfield 9, 3) := by decide +kernel
theorem dX4_split_91 : decode cX4_split 91 = .ok (.iload_n 3, 1) := by decide +kernel
theorem dX4_split_92 : decode cX4_split 92 = .ok (.sipush 281, 3) := by decide +kernel
theorem dX4_split_95 : decode cX4_split 95 = .ok (.iastore, 1) := by decide +kernel
theorem dX4_split_96 : decode cX4_split 96 = .ok (.aload_n 0, 1) := by decide +kernel
theorem dX4_split_97 : decode cX4_split 97 = .ok (.getfield 15, 3) := by decide +kernel
theorem dX4_split_100 : decode cX4_split 100 = .ok (.iload_n 3, 1) := by decide +kernel
theorem dX4_split_101 : decode cX4_split 101 = .ok (.aload_n 1, 1) := by decide +kernel
theorem dX4_split_102 : decode cX4_split 102 = .ok (.iload 4, 2) := by decide +kernel
theorem dX4_split_104 : decode cX4_split 104 = .ok (.iload 6, 2) := by decide +kernel
theorem dX4_split_106 : decode cX4_split 106 = .ok (.invokestatic 92, 3) := by decide +kernel
theorem dX4_split_109 : decode cX4_split 109 = .ok (.iastore, 1) := by decide +kernel
theorem dX4_split_110 : decode cX4_split 110 = .ok (.goto 11, 3) := by decide +kernel
theorem dX4_split_113 : decode cX4_split 113 = .ok (.aload_n 0, 1) := by decide +kernel
theorem dX4_split_114 : decode cX4_split 114 = .ok (.getfield 9, 3) := by decide +kernel
theorem dX4_split_117 : decode cX4_split 117 = .ok (.iload_n 3, 1) := by decide +kernel
theorem dX4_split_118 : decode cX4_split 118 = .ok (.iload 7, 2) := by decide +kernel
theorem dX4_split_120 : decode cX4_split 120 = .ok (.iastore, 1) := by decide +kernel
theorem dX4_split_121 : decode cX4_split 121 = .ok (.aload_n 0, 1) := by decide +kernel
theorem dX4_split_122 : decode cX4_split 122 = .ok (.getfield 18, 3) := by decide +kernel
theorem dX4_split_125 : decode cX4_split 125 = .ok (.iload_n 3, 1) := by decide +kernel
theorem dX4_split_126 : decode cX4_split 126 = .ok (.iload 4, 2) := by decide +kernel
theorem dX4_split_128 : decode cX4_split 128 = .ok (.iastore, 1) := by decide +kernel
theorem dX4_split_129 : decode cX4_split 129 = .ok (.iload 7, 2) := by decide +kernel
theorem dX4_split_131 : decode cX4_split 131 = .ok (.bipush 32, 2) := by decide +kernel
theorem dX4_split_133 : decode cX4_split 133 = .ok (.if_icmp .eq 6, 3) := by decide +kernel
theorem dX4_split_136 : decode cX4_split 136 = .ok (.iinc 3 1, 3) := by decide +kernel
theorem dX4_split_139 : decode cX4_split 139 = .ok (.iload 6, 2) := by decide +kernel
theorem dX4_split_141 : decode cX4_split 141 = .ok (.istore 4, 2) := by decide +kernel
theorem dX4_split_143 : decode cX4_split 143 = .ok (.iinc 5 1, 3) := by decide +kernel
theorem dX4_split_146 : decode cX4_split 146 = .ok (.goto (-138), 3) := by decide +kernel
theorem dX4_split_149 : decode cX4_split 149 = .ok (.aload_n 0, 1) := by decide +kernel
theorem dX4_split_150 : decode cX4_split 150 = .ok (.getfield 9, 3) := by decide +kernel
theorem dX4_split_153 : decode cX4_split 153 = .ok (.iload_n 3, 1) := by decide +kernel
theorem dX4_split_154 : decode cX4_split 154 = .ok (.sipush 283, 3) := by decide +kernel
theorem dX4_split_157 : decode cX4_split 157 = .ok (.iastore, 1) := by decide +kernel
theorem dX4_split_158 : decode cX4_split 158 = .ok (.aload_n 0, 1) := by decide +kernel
theorem dX4_split_159 : decode cX4_split 159 = .ok (.getfield 18, 3) := by decide +kernel
theorem dX4_split_162 : decode cX4_split 162 = .ok (.iload_n 3, 1) := by decide +kernel
theorem dX4_split_163 : decode cX4_split 163 = .ok (.iload_n 2, 1) := by decide +kernel
theorem dX4_split_164 : decode cX4_split 164 = .ok (.iastore, 1) := by decide +kernel
theorem dX4_split_165 : decode cX4_split 165 = .ok (.return_, 1) := by decide +kernel
theorem dX4_isLetter_0 : decode cX4_isLetter 0 = .ok (.iload_n 0, 1) := by decide +kernel
theorem dX4_isLetter_1 : decode cX4_isLetter 1 = .ok (.bipush 97, 2) := by decide +kernel
theorem dX4_isLetter_3 : decode cX4_isLetter 3 = .ok (.if_icmp .lt 13, 3) := by decide +kernel
theorem dX4_isLetter_6 : decode cX4_isLetter 6 = .ok (.iload_n 0, 1) := by decide +kernel
theorem dX4_isLetter_7 : decode cX4_isLetter 7 = .ok (.bipush 122, 2) := by decide +kernel
theorem dX4_isLetter_9 : decode cX4_isLetter 9 = .ok (.if_icmp .gt 7, 3) := by decide +kernel
theorem dX4_isLetter_12 : decode cX4_isLetter 12 = .ok (.iconst 1, 1) := by decide +kernel
theorem dX4_isLetter_13 : decode cX4_isLetter 13 = .ok (.goto 4, 3) := by decide +kernel
theorem dX4_isLetter_16 : decode cX4_isLetter 16 = .ok (.iconst 0, 1) := by decide +kernel
theorem dX4_isLetter_17 : decode cX4_isLetter 17 = .ok (.ireturn, 1) := by decide +kernel
theorem dX4_isDigit_0 : decode cX4_isDigit 0 = .ok (.iload_n 0, 1) := by decide +kernel
theorem dX4_isDigit_1 : decode cX4_isDigit 1 = .ok (.bipush 48, 2) := by decide +kernel
theorem dX4_isDigit_3 : decode cX4_isDigit 3 = .ok (.if_icmp .lt 13, 3) := by decide +kernel
theorem dX4_isDigit_6 : decode cX4_isDigit 6 = .ok (.iload_n 0, 1) := by decide +kernel
theorem dX4_isDigit_7 : decode cX4_isDigit 7 = .ok (.bipush 57, 2) := by decide +kernel
theorem dX4_isDigit_9 : decode cX4_isDigit 9 = .ok (.if_icmp .gt 7, 3) := by decide +kernel
theorem dX4_isDigit_12 : decode cX4_isDigit 12 = .ok (.iconst 1, 1) := by decide +kernel
theorem dX4_isDigit_13 : decode cX4_isDigit 13 = .ok (.goto 4, 3) := by decide +kernel
theorem dX4_isDigit_16 : decode cX4_isDigit 16 = .ok (.iconst 0, 1) := by decide +kernel
theorem dX4_isDigit_17 : decode cX4_isDigit 17 = .ok (.ireturn, 1) := by decide +kernel
theorem dX4_runEnd_0 : decode cX4_runEnd 0 = .ok (.iload_n 1, 1) := by decide +kernel
theorem dX4_runEnd_1 : decode cX4_runEnd 1 = .ok (.istore 4, 2) := by decide +kernel
theorem dX4_runEnd_3 : decode cX4_runEnd 3 = .ok (.iconst 0, 1) := by decide +kernel
theorem dX4_runEnd_4 : decode cX4_runEnd 4 = .ok (.istore 5, 2) := by decide +kernel
theorem dX4_runEnd_6 : decode cX4_runEnd 6 = .ok (.iload 5, 2) := by decide +kernel
theorem dX4_runEnd_8 : decode cX4_runEnd 8 = .ok (.sipush 400, 3) := by decide +kernel
theorem dX4_runEnd_11 : decode cX4_runEnd 11 = .ok (.if_icmp .ge 48, 3) := by decide +kernel
theorem dX4_runEnd_14 : decode cX4_runEnd 14 = .ok (.iload 4, 2) := by decide +kernel
theorem dX4_runEnd_16 : decode cX4_runEnd 16 = .ok (.iload_n 2, 1) := by decide +kernel
theorem dX4_runEnd_17 : decode cX4_runEnd 17 = .ok (.if_icmp .ge 42, 3) := by decide +kernel
theorem dX4_runEnd_20 : decode cX4_runEnd 20 = .ok (.iload_n 3, 1) := by decide +kernel
theorem dX4_runEnd_21 : decode cX4_runEnd 21 = .ok (.ifCond .eq 16, 3) := by decide +kernel
theorem dX4_runEnd_24 : decode cX4_runEnd 24 = .ok (.aload_n 0, 1) := by decide +kernel
theorem dX4_runEnd_25 : decode cX4_runEnd 25 = .ok (.iload 4, 2) := by decide +kernel
theorem dX4_runEnd_27 : decode cX4_runEnd 27 = .ok (.iaload, 1) := by decide +kernel
theorem dX4_runEnd_28 : decode cX4_runEnd 28 = .ok (.invokestatic 78, 3) := by decide +kernel
theorem dX4_runEnd_31 : decode cX4_runEnd 31 = .ok (.ifCond .eq 28, 3) := by decide +kernel
theorem dX4_runEnd_34 : decode cX4_runEnd 34 = .ok (.goto 16, 3) := by decide +kernel
theorem dX4_runEnd_37 : decode cX4_runEnd 37 = .ok (.aload_n 0, 1) := by decide +kernel
theorem dX4_runEnd_38 : decode cX4_runEnd 38 = .ok (.iload 4, 2) := by decide +kernel
theorem dX4_runEnd_40 : decode cX4_runEnd 40 = .ok (.iaload, 1) := by decide +kernel
theorem dX4_runEnd_41 : decode cX4_runEnd 41 = .ok (.invokestatic 89, 3) := by decide +kernel
theorem dX4_runEnd_44 : decode cX4_runEnd 44 = .ok (.ifCond .ne 6, 3) := by decide +kernel
theorem dX4_runEnd_47 : decode cX4_runEnd 47 = .ok (.goto 12, 3) := by decide +kernel
theorem dX4_runEnd_50 : decode cX4_runEnd 50 = .ok (.iinc 4 1, 3) := by decide +kernel
theorem dX4_runEnd_53 : decode cX4_runEnd 53 = .ok (.iinc 5 1, 3) := by decide +kernel
theorem dX4_runEnd_56 : decode cX4_runEnd 56 = .ok (.goto (-50), 3) := by decide +kernel
theorem dX4_runEnd_59 : decode cX4_runEnd 59 = .ok (.iload 4, 2) := by decide +kernel
theorem dX4_runEnd_61 : decode cX4_runEnd 61 = .ok (.ireturn, 1) := by decide +kernel
theorem dX4_valueOf_0 : decode cX4_valueOf 0 = .ok (.iconst 0, 1) := by decide +kernel
theorem dX4_valueOf_1 : decode cX4_valueOf 1 = .ok (.istore_n 3, 1) := by decide +kernel
theorem dX4_valueOf_2 : decode cX4_valueOf 2 = .ok (.iload_n 1, 1) := by decide +kernel
theorem dX4_valueOf_3 : decode cX4_valueOf 3 = .ok (.istore 4, 2) := by decide +kernel
theorem dX4_valueOf_5 : decode cX4_valueOf 5 = .ok (.iload 4, 2) := by decide +kernel
theorem dX4_valueOf_7 : decode cX4_valueOf 7 = .ok (.iload_n 2, 1) := by decide +kernel
theorem dX4_valueOf_8 : decode cX4_valueOf 8 = .ok (.if_icmp .ge 28, 3) := by decide +kernel
theorem dX4_valueOf_11 : decode cX4_valueOf 11 = .ok (.iload_n 3, 1) := by decide +kernel
theorem dX4_valueOf_12 : decode cX4_valueOf 12 = .ok (.bipush 10, 2) := by decide +kernel
theorem dX4_valueOf_14 : decode cX4_valueOf 14 = .ok (.imul, 1) := by decide +kernel
theorem dX4_valueOf_15 : decode cX4_valueOf 15 = .ok (.aload_n 0, 1) := by decide +kernel
theorem dX4_valueOf_16 : decode cX4_valueOf 16 = .ok (.iload 4, 2) := by decide +kernel
theorem dX4_valueOf_18 : decode cX4_valueOf 18 = .ok (.iaload, 1) := by decide +kernel
theorem dX4_valueOf_19 : decode cX4_valueOf 19 = .ok (.iadd, 1) := by decide +kernel
theorem dX4_valueOf_20 : decode cX4_valueOf 20 = .ok (.bipush 48, 2) := by decide +kernel
theorem dX4_valueOf_22 : decode cX4_valueOf 22 = .ok (.isub, 1) := by decide +kernel
theorem dX4_valueOf_23 : decode cX4_valueOf 23 = .ok (.sipush 2001, 3) := by decide +kernel
theorem dX4_valueOf_26 : decode cX4_valueOf 26 = .ok (.invokestatic 95, 3) := by decide +kernel
theorem dX4_valueOf_29 : decode cX4_valueOf 29 = .ok (.istore_n 3, 1) := by decide +kernel
theorem dX4_valueOf_30 : decode cX4_valueOf 30 = .ok (.iinc 4 1, 3) := by decide +kernel
theorem dX4_valueOf_33 : decode cX4_valueOf 33 = .ok (.goto (-28), 3) := by decide +kernel
theorem dX4_valueOf_36 : decode cX4_valueOf 36 = .ok (.iload_n 3, 1) := by decide +kernel
theorem dX4_valueOf_37 : decode cX4_valueOf 37 = .ok (.ireturn, 1) := by decide +kernel
theorem dX4_wordOf_0 : decode cX4_wordOf 0 = .ok (.sipush 256, 3) := by decide +kernel
theorem dX4_wordOf_3 : decode cX4_wordOf 3 = .ok (.istore_n 3, 1) := by decide +kernel
theorem dX4_wordOf_4 : decode cX4_wordOf 4 = .ok (.iconst 0, 1) := by decide +kernel
theorem dX4_wordOf_5 : decode cX4_wordOf 5 = .ok (.istore 4, 2) := by decide +kernel
theorem dX4_wordOf_7 : decode cX4_wordOf 7 = .ok (.iconst 0, 1) := by decide +kernel
theorem dX4_wordOf_8 : decode cX4_wordOf 8 = .ok (.istore 5, 2) := by decide +kernel
theorem dX4_wordOf_10 : decode cX4_wordOf 10 = .ok (.iload 5, 2) := by decide +kernel
theorem dX4_wordOf_12 : decode cX4_wordOf 12 = .ok (.ldc 101, 2) := by decide +kernel
theorem dX4_wordOf_14 : decode cX4_wordOf 14 = .ok (.invokevirtual 103, 3) := by decide +kernel
theorem dX4_wordOf_17 : decode cX4_wordOf 17 = .ok (.if_icmp .ge 55, 3) := by decide +kernel
theorem dX4_wordOf_20 : decode cX4_wordOf 20 = .ok (.ldc 101, 2) := by decide +kernel
theorem dX4_wordOf_22 : decode cX4_wordOf 22 = .ok (.iload 5, 2) := by decide +kernel
theorem dX4_wordOf_24 : decode cX4_wordOf 24 = .ok (.invokevirtual 107, 3) := by decide +kernel
theorem dX4_wordOf_27 : decode cX4_wordOf 27 = .ok (.bipush 32, 2) := by decide +kernel
theorem dX4_wordOf_29 : decode cX4_wordOf 29 = .ok (.if_icmp .ne 37, 3) := by decide +kernel
theorem dX4_wordOf_32 : decode cX4_wordOf 32 = .ok (.iload 5, 2) := by decide +kernel
theorem dX4_wordOf_34 : decode cX4_wordOf 34 = .ok (.iload 4, 2) := by decide +kernel
theorem dX4_wordOf_36 : decode cX4_wordOf 36 = .ok (.isub, 1) := by decide +kernel
theorem dX4_wordOf_37 : decode cX4_wordOf 37 = .ok (.iload_n 2, 1) := by decide +kernel
theorem dX4_wordOf_38 : decode cX4_wordOf 38 = .ok (.iload_n 1, 1) := by decide +kernel
theorem dX4_wordOf_39 : decode cX4_wordOf 39 = .ok (.isub, 1) := by decide +kernel
theorem dX4_wordOf_40 : decode cX4_wordOf 40 = .ok (.if_icmp .ne 17, 3) := by decide +kernel
theorem dX4_wordOf_43 : decode cX4_wordOf 43 = .ok (.aload_n 0, 1) := by decide +kernel
theorem dX4_wordOf_44 : decode cX4_wordOf 44 = .ok (.iload_n 1, 1) := by decide +kernel
theorem dX4_wordOf_45 : decode cX4_wordOf 45 = .ok (.iload 4, 2) := by decide +kernel
theorem dX4_wordOf_47 : decode cX4_wordOf 47 = .ok (.iload 5, 2) := by decide +kernel
theorem dX4_wordOf_49 : decode cX4_wordOf 49 = .ok (.invokestatic 111, 3) := by decide +kernel
theorem dX4_wordOf_52 : decode cX4_wordOf 52 = .ok (.ifCond .eq 5, 3) := by decide +kernel
theorem dX4_wordOf_55 : decode cX4_wordOf 55 = .ok (.iload_n 3, 1) := by decide +kernel
theorem dX4_wordOf_56 : decode cX4_wordOf 56 = .ok (.ireturn, 1) := by decide +kernel
theorem dX4_wordOf_57 : decode cX4_wordOf 57 = .ok (.iinc 3 1, 3) := by decide +kernel
theorem dX4_wordOf_60 : decode cX4_wordOf 60 = .ok (.iload 5, 2) := by decide +kernel
theorem dX4_wordOf_62 : decode cX4_wordOf 62 = .ok (.iconst 1, 1) := by decide +kernel
theorem dX4_wordOf_63 : decode cX4_wordOf 63 = .ok (.iadd, 1) := by decide +kernel
theorem dX4_wordOf_64 : decode cX4_wordOf 64 = .ok (.istore 4, 2) := by decide +kernel
theorem dX4_wordOf_66 : decode cX4_wordOf 66 = .ok (.iinc 5 1, 3) := by decide +kernel
theorem dX4_wordOf_69 : decode cX4_wordOf 69 = .ok (.goto (-59), 3) := by decide +kernel
theorem dX4_wordOf_72 : decode cX4_wordOf 72 = .ok (.sipush 280, 3) := by decide +kernel
theorem dX4_wordOf_75 : decode cX4_wordOf 75 = .ok (.ireturn, 1) := by decide +kernel
theorem dX4_isWordAt_0 : decode cX4_isWordAt 0 = .ok (.iload_n 2, 1) := by decide +kernel
theorem dX4_isWordAt_1 : decode cX4_isWordAt 1 = .ok (.istore 4, 2) := by decide +kernel
theorem dX4_isWordAt_3 : decode cX4_isWordAt 3 = .ok (.iload 4, 2) := by decide +kernel
theorem dX4_isWordAt_5 : decode cX4_isWordAt 5 = .ok (.iload_n 3, 1) := by decide +kernel
theorem dX4_isWordAt_6 : decode cX4_isWordAt 6 = .ok (.if_icmp .ge 29, 3) := by decide +kernel
theorem dX4_isWordAt_9 : decode cX4_isWordAt 9 = .ok (.aload_n 0, 1) := by decide +kernel
theorem dX4_isWordAt_10 : decode cX4_isWordAt 10 = .ok (.iload_n 1, 1) := by decide +kernel
theorem dX4_isWordAt_11 : decode cX4_isWordAt 11 = .ok (.iload 4, 2) := by decide +kernel
theorem dX4_isWordAt_13 : decode cX4_isWordAt 13 = .ok (.iadd, 1) := by decide +kernel
theorem dX4_isWordAt_14 : decode cX4_isWordAt 14 = .ok (.iload_n 2, 1) := by decide +kernel
theorem dX4_isWordAt_15 : decode cX4_isWordAt 15 = .ok (.isub, 1) := by decide +kernel
theorem dX4_isWordAt_16 : decode cX4_isWordAt 16 = .ok (.iaload, 1) := by decide +kernel
theorem dX4_isWordAt_17 : decode cX4_isWordAt 17 = .ok (.ldc 101, 2) := by decide +kernel
theorem dX4_isWordAt_19 : decode cX4_isWordAt 19 = .ok (.iload 4, 2) := by decide +kernel
theorem dX4_isWordAt_21 : decode cX4_isWordAt 21 = .ok (.invokevirtual 107, 3) := by decide +kernel
theorem dX4_isWordAt_24 : decode cX4_isWordAt 24 = .ok (.if_icmp .eq 5, 3) := by decide +kernel
theorem dX4_isWordAt_27 : decode cX4_isWordAt 27 = .ok (.iconst 0, 1) := by decide +kernel
theorem dX4_isWordAt_28 : decode cX4_isWordAt 28 = .ok (.ireturn, 1) := by decide +kernel
theorem dX4_isWordAt_29 : decode cX4_isWordAt 29 = .ok (.iinc 4 1, 3) := by decide +kernel
theorem dX4_isWordAt_32 : decode cX4_isWordAt 32 = .ok (.goto (-29), 3) := by decide +kernel
theorem dX4_isWordAt_35 : decode cX4_isWordAt 35 = .ok (.iconst 1, 1) := by decide +kernel
theorem dX4_isWordAt_36 : decode cX4_isWordAt 36 = .ok (.ireturn, 1) := by decide +kernel
theorem dX4_next_0 : decode cX4_next 0 = .ok (.aload_n 0, 1) := by decide +kernel
theorem dX4_next_1 : decode cX4_next 1 = .ok (.getfield 21, 3) := by decide +kernel
theorem dX4_next_4 : decode cX4_next 4 = .ok (.aload_n 0, 1) := by decide +kernel
theorem dX4_next_5 : decode cX4_next 5 = .ok (.getfield 9, 3) := by decide +kernel
theorem dX4_next_8 : decode cX4_next 8 = .ok (.arraylength, 1) := by decide +kernel
theorem dX4_next_9 : decode cX4_next 9 = .ok (.if_icmp .ge 15, 3) := by decide +kernel
theorem dX4_next_12 : decode cX4_next 12 = .ok (.aload_n 0, 1) := by decide +kernel
theorem dX4_next_13 : decode cX4_next 13 = .ok (.getfield 9, 3) := by decide +kernel
theorem dX4_next_16 : decode cX4_next 16 = .ok (.aload_n 0, 1) := by decide +kernel
theorem dX4_next_17 : decode cX4_next 17 = .ok (.getfield 21, 3) := by decide +kernel
theorem dX4_next_20 : decode cX4_next 20 = .ok (.iaload, 1) := by decide +kernel
theorem dX4_next_21 : decode cX4_next 21 = .ok (.goto 6, 3) := by decide +kernel
theorem dX4_next_24 : decode cX4_next 24 = .ok (.sipush 283, 3) := by decide +kernel
theorem dX4_next_27 : decode cX4_next 27 = .ok (.ireturn, 1) := by decide +kernel
theorem dX4_takes_0 : decode cX4_takes 0 = .ok (.aload_n 0, 1) := by decide +kernel
theorem dX4_takes_1 : decode cX4_takes 1 = .ok (.getfield 46, 3) := by decide +kernel
theorem dX4_takes_4 : decode cX4_takes 4 = .ok (.iconst (-1), 1) := by decide +kernel
theorem dX4_takes_5 : decode cX4_takes 5 = .ok (.if_icmp .ne 28, 3) := by decide +kernel
theorem dX4_takes_8 : decode cX4_takes 8 = .ok (.aload_n 0, 1) := by decide +kernel
theorem dX4_takes_9 : decode cX4_takes 9 = .ok (.getfield 21, 3) := by decide +kernel
theorem dX4_takes_12 : decode cX4_takes 12 = .ok (.aload_n 0, 1) := by decide +kernel
theorem dX4_takes_13 : decode cX4_takes 13 = .ok (.getfield 9, 3) := by decide +kernel
theorem dX4_takes_16 : decode cX4_takes 16 = .ok (.arraylength, 1) := by decide +kernel
theorem dX4_takes_17 : decode cX4_takes 17 = .ok (.if_icmp .ge 16, 3) := by decide +kernel
theorem dX4_takes_20 : decode cX4_takes 20 = .ok (.aload_n 0, 1) := by decide +kernel
theorem dX4_takes_21 : decode cX4_takes 21 = .ok (.getfield 9, 3) := by decide +kernel
theorem dX4_takes_24 : decode cX4_takes 24 = .ok (.aload_n 0, 1) := by decide +kernel
theorem dX4_takes_25 : decode cX4_takes 25 = .ok (.getfield 21, 3) := by decide +kernel
theorem dX4_takes_28 : decode cX4_takes 28 = .ok (.iaload, 1) := by decide +kernel
theorem dX4_takes_29 : decode cX4_takes 29 = .ok (.iload_n 1, 1) := by decide +kernel
theorem dX4_takes_30 : decode cX4_takes 30 = .ok (.if_icmp .eq 5, 3) := by decide +kernel
theorem dX4_takes_33 : decode cX4_takes 33 = .ok (.iconst 0, 1) := by decide +kernel
theorem dX4_takes_34 : decode cX4_takes 34 = .ok (.ireturn, 1) := by decide +kernel
theorem dX4_takes_35 : decode cX4_takes 35 = .ok (.aload_n 0, 1) := by decide +kernel
theorem dX4_takes_36 : decode cX4_takes 36 = .ok (.dup, 1) := by decide +kernel
theorem dX4_takes_37 : decode cX4_takes 37 = .ok (.getfield 21, 3) := by decide +kernel
theorem dX4_takes_40 : decode cX4_takes 40 = .ok (.iconst 1, 1) := by decide +kernel
theorem dX4_takes_41 : decode cX4_takes 41 = .ok (.iadd, 1) := by decide +kernel
theorem dX4_takes_42 : decode cX4_takes 42 = .ok (.putfield 21, 3) := by decide +kernel
theorem dX4_takes_45 : decode cX4_takes 45 = .ok (.iconst 1, 1) := by decide +kernel
theorem dX4_takes_46 : decode cX4_takes 46 = .ok (.ireturn, 1) := by decide +kernel
theorem dX4_stop_0 : decode cX4_stop 0 = .ok (.aload_n 0, 1) := by decide +kernel
theorem dX4_stop_1 : decode cX4_stop 1 = .ok (.getfield 46, 3) := by decide +kernel
theorem dX4_stop_4 : decode cX4_stop 4 = .ok (.iconst (-1), 1) := by decide +kernel
theorem dX4_stop_5 : decode cX4_stop 5 = .ok (.if_icmp .ne 34, 3) := by decide +kernel
theorem dX4_stop_8 : decode cX4_stop 8 = .ok (.aload_n 0, 1) := by decide +kernel
theorem dX4_stop_9 : decode cX4_stop 9 = .ok (.aload_n 0, 1) := by decide +kernel
theorem dX4_stop_10 : decode cX4_stop 10 = .ok (.getfield 21, 3) := by decide +kernel
theorem dX4_stop_13 : decode cX4_stop 13 = .ok (.aload_n 0, 1) := by decide +kernel
theorem dX4_stop_14 : decode cX4_stop 14 = .ok (.getfield 18, 3) := by decide +kernel
theorem dX4_stop_17 : decode cX4_stop 17 = .ok (.arraylength, 1) := by decide +kernel
theorem dX4_stop_18 : decode cX4_stop 18 = .ok (.if_icmp .ge 15, 3) := by decide +kernel
theorem dX4_stop_21 : decode cX4_stop 21 = .ok (.aload_n 0, 1) := by decide +kernel
theorem dX4_stop_22 : decode cX4_stop 22 = .ok (.getfield 18, 3) := by decide +kernel
theorem dX4_stop_25 : decode cX4_stop 25 = .ok (.aload_n 0, 1) := by decide +kernel
theorem dX4_stop_26 : decode cX4_stop 26 = .ok (.getfield 21, 3) := by decide +kernel
theorem dX4_stop_29 : decode cX4_stop 29 = .ok (.iaload, 1) := by decide +kernel
theorem dX4_stop_30 : decode cX4_stop 30 = .ok (.goto 6, 3) := by decide +kernel
theorem dX4_stop_33 : decode cX4_stop 33 = .ok (.sipush 400, 3) := by decide +kernel
theorem dX4_stop_36 : decode cX4_stop 36 = .ok (.putfield 46, 3) := by decide +kernel
theorem dX4_stop_39 : decode cX4_stop 39 = .ok (.return_, 1) := by decide +kernel
theorem dX4_step_0 : decode cX4_step 0 = .ok (.aload_n 0, 1) := by decide +kernel
theorem dX4_step_1 : decode cX4_step 1 = .ok (.getfield 40, 3) := by decide +kernel
theorem dX4_step_4 : decode cX4_step 4 = .ok (.sipush 424, 3) := by decide +kernel
theorem dX4_step_7 : decode cX4_step 7 = .ok (.if_icmp .ge 33, 3) := by decide +kernel
theorem dX4_step_10 : decode cX4_step 10 = .ok (.aload_n 0, 1) := by decide +kernel
theorem dX4_step_11 : decode cX4_step 11 = .ok (.getfield 34, 3) := by decide +kernel
theorem dX4_step_14 : decode cX4_step 14 = .ok (.aload_n 0, 1) := by decide +kernel
theorem dX4_step_15 : decode cX4_step 15 = .ok (.getfield 40, 3) := by decide +kernel
theorem dX4_step_18 : decode cX4_step 18 = .ok (.iload_n 1, 1) := by decide +kernel
theorem dX4_step_19 : decode cX4_step 19 = .ok (.iastore, 1) := by decide +kernel
theorem dX4_step_20 : decode cX4_step 20 = .ok (.aload_n 0, 1) := by decide +kernel
theorem dX4_step_21 : decode cX4_step 21 = .ok (.getfield 37, 3) := by decide +kernel
theorem dX4_step_24 : decode cX4_step 24 = .ok (.aload_n 0, 1) := by decide +kernel
theorem dX4_step_25 : decode cX4_step 25 = .ok (.getfield 40, 3) := by decide +kernel
theorem dX4_step_28 : decode cX4_step 28 = .ok (.iload_n 2, 1) := by decide +kernel
theorem dX4_step_29 : decode cX4_step 29 = .ok (.iastore, 1) := by decide +kernel
theorem dX4_step_30 : decode cX4_step 30 = .ok (.aload_n 0, 1) := by decide +kernel
theorem dX4_step_31 : decode cX4_step 31 = .ok (.dup, 1) := by decide +kernel
theorem dX4_step_32 : decode cX4_step 32 = .ok (.getfield 40, 3) := by decide +kernel
theorem dX4_step_35 : decode cX4_step 35 = .ok (.iconst 1, 1) := by decide +kernel
theorem dX4_step_36 : decode cX4_step 36 = .ok (.iadd, 1) := by decide +kernel
theorem dX4_step_37 : decode cX4_step 37 = .ok (.putfield 40, 3) := by decide +kernel
theorem dX4_step_40 : decode cX4_step 40 = .ok (.return_, 1) := by decide +kernel
theorem dX4_land_0 : decode cX4_land 0 = .ok (.iload_n 1, 1) := by decide +kernel
theorem dX4_land_1 : decode cX4_land 1 = .ok (.ifCond .le 22, 3) := by decide +kernel
theorem dX4_land_4 : decode cX4_land 4 = .ok (.iload_n 1, 1) := by decide +kernel
theorem dX4_land_5 : decode cX4_land 5 = .ok (.sipush 424, 3) := by decide +kernel
theorem dX4_land_8 : decode cX4_land 8 = .ok (.if_icmp .gt 15, 3) := by decide +kernel
theorem dX4_land_11 : decode cX4_land 11 = .ok (.aload_n 0, 1) := by decide +kernel
theorem dX4_land_12 : decode cX4_land 12 = .ok (.getfield 37, 3) := by decide +kernel
theorem dX4_land_15 : decode cX4_land 15 = .ok (.iload_n 1, 1) := by decide +kernel
theorem dX4_land_16 : decode cX4_land 16 = .ok (.iconst 1, 1) := by decide +kernel
theorem dX4_land_17 : decode cX4_land 17 = .ok (.isub, 1) := by decide +kernel
theorem dX4_land_18 : decode cX4_land 18 = .ok (.aload_n 0, 1) := by decide +kernel
theorem dX4_land_19 : decode cX4_land 19 = .ok (.getfield 40, 3) := by decide +kernel
theorem dX4_land_22 : decode cX4_land 22 = .ok (.iastore, 1) := by decide +kernel
theorem dX4_land_23 : decode cX4_land 23 = .ok (.return_, 1) := by decide +kernel
theorem dX4_clause_0 : decode cX4_clause 0 = .ok (.aload_n 0, 1) := by decide +kernel
theorem dX4_clause_1 : decode cX4_clause 1 = .ok (.invokevirtual 60, 3) := by decide +kernel
theorem dX4_clause_4 : decode cX4_clause 4 = .ok (.istore_n 1, 1) := by decide +kernel
theorem dX4_clause_5 : decode cX4_clause 5 = .ok (.aload_n 0, 1) := by decide +kernel
theorem dX4_clause_6 : decode cX4_clause 6 = .ok (.getfield 31, 3) := by decide +kernel
theorem dX4_clause_9 : decode cX4_clause 9 = .ok (.bipush 12, 2) := by decide +kernel
theorem dX4_clause_11 : decode cX4_clause 11 = .ok (.if_icmp .ge 17, 3) := by decide +kernel
theorem dX4_clause_14 : decode cX4_clause 14 = .ok (.iload_n 1, 1) := by decide +kernel
theorem dX4_clause_15 : decode cX4_clause 15 = .ok (.sipush 256, 3) := by decide +kernel
theorem dX4_clause_18 : decode cX4_clause 18 = .ok (.if_icmp .lt 10, 3) := by decide +kernel
theorem dX4_clause_21 : decode cX4_clause 21 = .ok (.iload_n 1, 1) := by decide +kernel
theorem dX4_clause_22 : decode cX4_clause 22 = .ok (.sipush 258, 3) := by decide +kernel
theorem dX4_clause_25 : decode cX4_clause 25 = .ok (.if_icmp .le 8, 3) := by decide +kernel
theorem dX4_clause_28 : decode cX4_clause 28 = .ok (.aload_n 0, 1) := by decide +kernel
theorem dX4_clause_29 : decode cX4_clause 29 = .ok (.invokevirtual 64, 3) := by decide +kernel
theorem dX4_clause_32 : decode cX4_clause 32 = .ok (.return_, 1) := by decide +kernel
theorem dX4_clause_33 : decode cX4_clause 33 = .ok (.aload_n 0, 1) := by decide +kernel
theorem dX4_clause_34 : decode cX4_clause 34 = .ok (.dup, 1) := by decide +kernel
theorem dX4_clause_35 : decode cX4_clause 35 = .ok (.getfield 21, 3) := by decide +kernel
theorem dX4_clause_38 : decode cX4_clause 38 = .ok (.iconst 1, 1) := by decide +kernel
theorem dX4_clause_39 : decode cX4_clause 39 = .ok (.iadd, 1) := by decide +kernel
theorem dX4_clause_40 : decode cX4_clause 40 = .ok (.putfield 21, 3) := by decide +kernel
theorem dX4_clause_43 : decode cX4_clause 43 = .ok (.iload_n 1, 1) := by decide +kernel
theorem dX4_clause_44 : decode cX4_clause 44 = .ok (.sipush 258, 3) := by decide +kernel
theorem dX4_clause_47 : decode cX4_clause 47 = .ok (.if_icmp .ne 14, 3) := by decide +kernel
theorem dX4_clause_50 : decode cX4_clause 50 = .ok (.aload_n 0, 1) := by decide +kernel
theorem dX4_clause_51 : decode cX4_clause 51 = .ok (.sipush 281, 3) := by decide +kernel
theorem dX4_clause_54 : decode cX4_clause 54 = .ok (.iconst 1, 1) := by decide +kernel
theorem dX4_clause_55 : decode cX4_clause 55 = .ok (.invokevirtual 115, 3) := by decide +kernel
theorem dX4_clause_58 : decode cX4_clause 58 = .ok (.goto 8, 3) := by decide +kernel
theorem dX4_clause_61 : decode cX4_clause 61 = .ok (.aload_n 0, 1) := by decide +kernel
theorem dX4_clause_62 : decode cX4_clause 62 = .ok (.iconst 0, 1) := by decide +kernel
theorem dX4_clause_63 : decode cX4_clause 63 = .ok (.invokevirtual 119, 3) := by decide +kernel
theorem dX4_clause_66 : decode cX4_clause 66 = .ok (.aload_n 0, 1) := by decide +kernel
theorem dX4_clause_67 : decode cX4_clause 67 = .ok (.sipush 259, 3) := by decide +kernel
theorem dX4_clause_70 : decode cX4_clause 70 = .ok (.invokevirtual 56, 3) := by decide +kernel
theorem dX4_clause_73 : decode cX4_clause 73 = .ok (.ifCond .eq 11, 3) := by decide +kernel
theorem dX4_clause_76 : decode cX4_clause 76 = .ok (.aload_n 0, 1) := by decide +kernel
theorem dX4_clause_77 : decode cX4_clause 77 = .ok (.iconst 0, 1) := by decide +kernel
theorem dX4_clause_78 : decode cX4_clause 78 = .ok (.invokevirtual 123, 3) := by decide +kernel
theorem dX4_clause_81 : decode cX4_clause 81 = .ok (.goto 11, 3) := by decide +kernel
theorem dX4_clause_84 : decode cX4_clause 84 = .ok (.aload_n 0, 1) := by decide +kernel
theorem dX4_clause_85 : decode cX4_clause 85 = .ok (.sipush 281, 3) := by decide +kernel
theorem dX4_clause_88 : decode cX4_clause 88 = .ok (.iconst 1, 1) := by decide +kernel
theorem dX4_clause_89 : decode cX4_clause 89 = .ok (.invokevirtual 115, 3) := by decide +kernel
theorem dX4_clause_92 : decode cX4_clause 92 = .ok (.aload_n 0, 1) := by decide +kernel
theorem dX4_clause_93 : decode cX4_clause 93 = .ok (.getfield 25, 3) := by decide +kernel
theorem dX4_clause_96 : decode cX4_clause 96 = .ok (.aload_n 0, 1) := by decide +kernel
theorem dX4_clause_97 : decode cX4_clause 97 = .ok (.getfield 31, 3) := by decide +kernel
theorem dX4_clause_100 : decode cX4_clause 100 = .ok (.iload_n 1, 1) := by decide +kernel
theorem dX4_clause_101 : decode cX4_clause 101 = .ok (.iastore, 1) := by decide +kernel
theorem dX4_clause_102 : decode cX4_clause 102 = .ok (.aload_n 0, 1) := by decide +kernel
theorem dX4_clause_103 : decode cX4_clause 103 = .ok (.getfield 28, 3) := by decide +kernel
theorem dX4_clause_106 : decode cX4_clause 106 = .ok (.aload_n 0, 1) := by decide +kernel
theorem dX4_clause_107 : decode cX4_clause 107 = .ok (.getfield 31, 3) := by decide +kernel
theorem dX4_clause_110 : decode cX4_clause 110 = .ok (.aload_n 0, 1) := by decide +kernel
theorem dX4_clause_111 : decode cX4_clause 111 = .ok (.getfield 40, 3) := by decide +kernel
theorem dX4_clause_114 : decode cX4_clause 114 = .ok (.iastore, 1) := by decide +kernel
theorem dX4_clause_115 : decode cX4_clause 115 = .ok (.aload_n 0, 1) := by decide +kernel
theorem dX4_clause_116 : decode cX4_clause 116 = .ok (.dup, 1) := by decide +kernel
theorem dX4_clause_117 : decode cX4_clause 117 = .ok (.getfield 31, 3) := by decide +kernel
theorem dX4_clause_120 : decode cX4_clause 120 = .ok (.iconst 1, 1) := by decide +kernel
theorem dX4_clause_121 : decode cX4_clause 121 = .ok (.iadd, 1) := by decide +kernel
theorem dX4_clause_122 : decode cX4_clause 122 = .ok (.putfield 31, 3) := by decide +kernel
theorem dX4_clause_125 : decode cX4_clause 125 = .ok (.return_, 1) := by decide +kernel
theorem dX4_test_0 : decode cX4_test 0 = .ok (.iconst (-1), 1) := by decide +kernel
theorem dX4_test_1 : decode cX4_test 1 = .ok (.istore_n 2, 1) := by decide +kernel
theorem dX4_test_2 : decode cX4_test 2 = .ok (.aload_n 0, 1) := by decide +kernel
theorem dX4_test_3 : decode cX4_test 3 = .ok (.iload_n 1, 1) := by decide +kernel
theorem dX4_test_4 : decode cX4_test 4 = .ok (.invokevirtual 126, 3) := by decide +kernel
theorem dX4_test_7 : decode cX4_test 7 = .ok (.iconst 0, 1) := by decide +kernel
theorem dX4_test_8 : decode cX4_test 8 = .ok (.istore_n 3, 1) := by decide +kernel
theorem dX4_test_9 : decode cX4_test 9 = .ok (.iload_n 3, 1) := by decide +kernel
theorem dX4_test_10 : decode cX4_test 10 = .ok (.sipush 400, 3) := by decide +kernel
theorem dX4_test_13 : decode cX4_test 13 = .ok (.if_icmp .ge 88, 3) := by decide +kernel
theorem dX4_test_16 : decode cX4_test 16 = .ok (.aload_n 0, 1) := by decide +kernel
theorem dX4_test_17 : decode cX4_test 17 = .ok (.getfield 46, 3) := by decide +kernel
theorem dX4_test_20 : decode cX4_test 20 = .ok (.iconst (-1), 1) := by decide +kernel
theorem dX4_test_21 : decode cX4_test 21 = .ok (.if_icmp .ne 80, 3) := by decide +kernel
theorem dX4_test_24 : decode cX4_test 24 = .ok (.aload_n 0, 1) := by decide +kernel
theorem dX4_test_25 : decode cX4_test 25 = .ok (.sipush 261, 3) := by decide +kernel
theorem dX4_test_28 : decode cX4_test 28 = .ok (.invokevirtual 56, 3) := by decide +kernel
theorem dX4_test_31 : decode cX4_test 31 = .ok (.ifCond .eq 31, 3) := by decide +kernel
theorem dX4_test_34 : decode cX4_test 34 = .ok (.aload_n 0, 1) := by decide +kernel
theorem dX4_test_35 : decode cX4_test 35 = .ok (.sipush 261, 3) := by decide +kernel
theorem dX4_test_38 : decode cX4_test 38 = .ok (.iconst 0, 1) := by decide +kernel
theorem dX4_test_39 : decode cX4_test 39 = .ok (.invokevirtual 115, 3) := by decide +kernel
theorem dX4_test_42 : decode cX4_test 42 = .ok (.aload_n 0, 1) := by decide +kernel
theorem dX4_test_43 : decode cX4_test 43 = .ok (.getfield 40, 3) := by decide +kernel
theorem dX4_test_46 : decode cX4_test 46 = .ok (.istore 4, 2) := by decide +kernel
theorem dX4_test_48 : decode cX4_test 48 = .ok (.aload_n 0, 1) := by decide +kernel
theorem dX4_test_49 : decode cX4_test 49 = .ok (.iload_n 1, 1) := by decide +kernel
theorem dX4_test_50 : decode cX4_test 50 = .ok (.invokevirtual 126, 3) := by decide +kernel
theorem dX4_test_53 : decode cX4_test 53 = .ok (.aload_n 0, 1) := by decide +kernel
theorem dX4_test_54 : decode cX4_test 54 = .ok (.iload 4, 2) := by decide +kernel
theorem dX4_test_56 : decode cX4_test 56 = .ok (.invokevirtual 129, 3) := by decide +kernel
theorem dX4_test_59 : decode cX4_test 59 = .ok (.goto 36, 3) := by decide +kernel
theorem dX4_test_62 : decode cX4_test 62 = .ok (.aload_n 0, 1) := by decide +kernel
theorem dX4_test_63 : decode cX4_test 63 = .ok (.sipush 260, 3) := by decide +kernel
theorem dX4_test_66 : decode cX4_test 66 = .ok (.invokevirtual 56, 3) := by decide +kernel
theorem dX4_test_69 : decode cX4_test 69 = .ok (.ifCond .eq 32, 3) := by decide +kernel
theorem dX4_test_72 : decode cX4_test 72 = .ok (.aload_n 0, 1) := by decide +kernel
theorem dX4_test_73 : decode cX4_test 73 = .ok (.iload_n 2, 1) := by decide +kernel
theorem dX4_test_74 : decode cX4_test 74 = .ok (.invokevirtual 129, 3) := by decide +kernel
theorem dX4_test_77 : decode cX4_test 77 = .ok (.aload_n 0, 1) := by decide +kernel
theorem dX4_test_78 : decode cX4_test 78 = .ok (.sipush 260, 3) := by decide +kernel
theorem dX4_test_81 : decode cX4_test 81 = .ok (.iconst 0, 1) := by decide +kernel
theorem dX4_test_82 : decode cX4_test 82 = .ok (.invokevirtual 115, 3) := by decide +kernel
theorem dX4_test_85 : decode cX4_test 85 = .ok (.aload_n 0, 1) := by decide +kernel
theorem dX4_test_86 : decode cX4_test 86 = .ok (.getfield 40, 3) := by decide +kernel
theorem dX4_test_89 : decode cX4_test 89 = .ok (.istore_n 2, 1) := by decide +kernel
theorem dX4_test_90 : decode cX4_test 90 = .ok (.aload_n 0, 1) := by decide +kernel
theorem dX4_test_91 : decode cX4_test 91 = .ok (.iload_n 1, 1) := by decide +kernel
theorem dX4_test_92 : decode cX4_test 92 = .ok (.invokevirtual 126, 3) := by decide +kernel
theorem dX4_test_95 : decode cX4_test 95 = .ok (.iinc 3 1, 3) := by decide +kernel
theorem dX4_test_98 : decode cX4_test 98 = .ok (.goto (-89), 3) := by decide +kernel
theorem dX4_test_101 : decode cX4_test 101 = .ok (.aload_n 0, 1) := by decide +kernel
theorem dX4_test_102 : decode cX4_test 102 = .ok (.iload_n 2, 1) := by decide +kernel
theorem dX4_test_103 : decode cX4_test 103 = .ok (.invokevirtual 129, 3) := by decide +kernel
theorem dX4_test_106 : decode cX4_test 106 = .ok (.return_, 1) := by decide +kernel
theorem dX4_plain_0 : decode cX4_plain 0 = .ok (.iconst 0, 1) := by decide +kernel
theorem dX4_plain_1 : decode cX4_plain 1 = .ok (.istore_n 2, 1) := by decide +kernel
theorem dX4_plain_2 : decode cX4_plain 2 = .ok (.iconst 0, 1) := by decide +kernel
theorem dX4_plain_3 : decode cX4_plain 3 = .ok (.istore_n 3, 1) := by decide +kernel
theorem dX4_plain_4 : decode cX4_plain 4 = .ok (.iload_n 3, 1) := by decide +kernel
theorem dX4_plain_5 : decode cX4_plain 5 = .ok (.sipush 400, 3) := by decide +kernel
theorem dX4_plain_8 : decode cX4_plain 8 = .ok (.if_icmp .ge 29, 3) := by decide +kernel
theorem dX4_plain_11 : decode cX4_plain 11 = .ok (.aload_n 0, 1) := by decide +kernel
theorem dX4_plain_12 : decode cX4_plain 12 = .ok (.sipush 262, 3) := by decide +kernel
theorem dX4_plain_15 : decode cX4_plain 15 = .ok (.invokevirtual 56, 3) := by decide +kernel
theorem dX4_plain_18 : decode cX4_plain 18 = .ok (.ifCond .eq 19, 3) := by decide +kernel
theorem dX4_plain_21 : decode cX4_plain 21 = .ok (.iload_n 2, 1) := by decide +kernel
theorem dX4_plain_22 : decode cX4_plain 22 = .ok (.ifCond .ne 7, 3) := by decide +kernel
theorem dX4_plain_25 : decode cX4_plain 25 = .ok (.iconst 1, 1) := by decide +kernel
theorem dX4_plain_26 : decode cX4_plain 26 = .ok (.goto 4, 3) := by decide +kernel
theorem dX4_plain_29 : decode cX4_plain 29 = .ok (.iconst 0, 1) := by decide +kernel
theorem dX4_plain_30 : decode cX4_plain 30 = .ok (.istore_n 2, 1) := by decide +kernel
theorem dX4_plain_31 : decode cX4_plain 31 = .ok (.iinc 3 1, 3) := by decide +kernel
theorem dX4_plain_34 : decode cX4_plain 34 = .ok (.goto (-30), 3) := by decide +kernel
theorem dX4_plain_37 : decode cX4_plain 37 = .ok (.iload_n 1, 1) := by decide +kernel
theorem dX4_plain_38 : decode cX4_plain 38 = .ok (.bipush 8, 2) := by decide +kernel
theorem dX4_plain_40 : decode cX4_plain 40 = .ok (.if_icmp .ge 35, 3) := by decide +kernel
theorem dX4_plain_43 : decode cX4_plain 43 = .ok (.aload_n 0, 1) := by decide +kernel
theorem dX4_plain_44 : decode cX4_plain 44 = .ok (.bipush 40, 2) := by decide +kernel
theorem dX4_plain_46 : decode cX4_plain 46 = .ok (.invokevirtual 56, 3) := by decide +kernel
theorem dX4_plain_49 : decode cX4_plain 49 = .ok (.ifCond .eq 26, 3) := by decide +kernel
theorem dX4_plain_52 : decode cX4_plain 52 = .ok (.aload_n 0, 1) := by decide +kernel
theorem dX4_plain_53 : decode cX4_plain 53 = .ok (.iload_n 1, 1) := by decide +kernel
theorem dX4_plain_54 : decode cX4_plain 54 = .ok (.iconst 1, 1) := by decide +kernel
theorem dX4_plain_55 : decode cX4_plain 55 = .ok (.iadd, 1) := by decide +kernel
theorem dX4_plain_56 : decode cX4_plain 56 = .ok (.invokevirtual 123, 3) := by decide +kernel
theorem dX4_plain_59 : decode cX4_plain 59 = .ok (.aload_n 0, 1) := by decide +kernel
theorem dX4_plain_60 : decode cX4_plain 60 = .ok (.bipush 41, 2) := by decide +kernel
theorem dX4_plain_62 : decode cX4_plain 62 = .ok (.invokevirtual 56, 3) := by decide +kernel
theorem dX4_plain_65 : decode cX4_plain 65 = .ok (.ifCond .ne 65, 3) := by decide +kernel
theorem dX4_plain_68 : decode cX4_plain 68 = .ok (.aload_n 0, 1) := by decide +kernel
theorem dX4_plain_69 : decode cX4_plain 69 = .ok (.invokevirtual 64, 3) := by decide +kernel
theorem dX4_plain_72 : decode cX4_plain 72 = .ok (.goto 58, 3) := by decide +kernel
theorem dX4_plain_75 : decode cX4_plain 75 = .ok (.aload_n 0, 1) := by decide +kernel
theorem dX4_plain_76 : decode cX4_plain 76 = .ok (.iload_n 1, 1) := by decide +kernel
theorem dX4_plain_77 : decode cX4_plain 77 = .ok (.invokevirtual 119, 3) := by decide +kernel
theorem dX4_plain_80 : decode cX4_plain 80 = .ok (.aload_n 0, 1) := by decide +kernel
theorem dX4_plain_81 : decode cX4_plain 81 = .ok (.invokevirtual 60, 3) := by decide +kernel
theorem dX4_plain_84 : decode cX4_plain 84 = .ok (.istore_n 3, 1) := by decide +kernel
theorem dX4_plain_85 : decode cX4_plain 85 = .ok (.aload_n 0, 1) := by decide +kernel
theorem dX4_plain_86 : decode cX4_plain 86 = .ok (.bipush 60, 2) := by decide +kernel
theorem dX4_plain_88 : decode cX4_plain 88 = .ok (.invokevirtual 56, 3) := by decide +kernel
theorem dX4_plain_91 : decode cX4_plain 91 = .ok (.ifCond .ne 21, 3) := by decide +kernel
theorem dX4_plain_94 : decode cX4_plain 94 = .ok (.aload_n 0, 1) := by decide +kernel
theorem dX4_plain_95 : decode cX4_plain 95 = .ok (.bipush 62, 2) := by decide +kernel
theorem dX4_plain_97 : decode cX4_plain 97 = .ok (.invokevirtual 56, 3) := by decide +kernel
theorem dX4_plain_100 : decode cX4_plain 100 = .ok (.ifCond .ne 12, 3) := by decide +kernel
theorem dX4_plain_103 : decode cX4_plain 103 = .ok (.aload_n 0, 1) := by decide +kernel
theorem dX4_plain_104 : decode cX4_plain 104 = .ok (.bipush 61, 2) := by decide +kernel
theorem dX4_plain_106 : decode cX4_plain 106 = .ok (.invokevirtual 56, 3) := by decide +kernel
theorem dX4_plain_109 : decode cX4_plain 109 = .ok (.ifCond .eq 17, 3) := by decide +kernel
theorem dX4_plain_112 : decode cX4_plain 112 = .ok (.aload_n 0, 1) := by decide +kernel
theorem dX4_plain_113 : decode cX4_plain 113 = .ok (.iload_n 1, 1) := by decide +kernel
theorem dX4_plain_114 : decode cX4_plain 114 = .ok (.invokevirtual 119, 3) := by decide +kernel
theorem dX4_plain_117 : decode cX4_plain 117 = .ok (.aload_n 0, 1) := by decide +kernel
theorem dX4_plain_118 : decode cX4_plain 118 = .ok (.iload_n 3, 1) := by decide +kernel
theorem dX4_plain_119 : decode cX4_plain 119 = .ok (.iconst 0, 1) := by decide +kernel
theorem dX4_plain_120 : decode cX4_plain 120 = .ok (.invokevirtual 115, 3) := by decide +kernel
theorem dX4_plain_123 : decode cX4_plain 123 = .ok (.goto 7, 3) := by decide +kernel
theorem dX4_plain_126 : decode cX4_plain 126 = .ok (.aload_n 0, 1) := by decide +kernel
theorem dX4_plain_127 : decode cX4_plain 127 = .ok (.invokevirtual 64, 3) := by decide +kernel
theorem dX4_plain_130 : decode cX4_plain 130 = .ok (.iload_n 2, 1) := by decide +kernel
theorem dX4_plain_131 : decode cX4_plain 131 = .ok (.ifCond .eq 11, 3) := by decide +kernel
theorem dX4_plain_134 : decode cX4_plain 134 = .ok (.aload_n 0, 1) := by decide +kernel
theorem dX4_plain_135 : decode cX4_plain 135 = .ok (.sipush 262, 3) := by decide +kernel
theorem dX4_plain_138 : decode cX4_plain 138 = .ok (.iconst 0, 1) := by decide +kernel
theorem dX4_plain_139 : decode cX4_plain 139 = .ok (.invokevirtual 115, 3) := by decide +kernel
theorem dX4_plain_142 : decode cX4_plain 142 = .ok (.return_, 1) := by decide +kernel
theorem dX4_sum_0 : decode cX4_sum 0 = .ok (.iconst (-1), 1) := by decide +kernel
theorem dX4_sum_1 : decode cX4_sum 1 = .ok (.istore_n 2, 1) := by decide +kernel
theorem dX4_sum_2 : decode cX4_sum 2 = .ok (.aload_n 0, 1) := by decide +kernel
theorem dX4_sum_3 : decode cX4_sum 3 = .ok (.iload_n 1, 1) := by decide +kernel
theorem dX4_sum_4 : decode cX4_sum 4 = .ok (.invokevirtual 132, 3) := by decide +kernel
theorem dX4_sum_7 : decode cX4_sum 7 = .ok (.iconst 0, 1) := by decide +kernel
theorem dX4_sum_8 : decode cX4_sum 8 = .ok (.istore_n 3, 1) := by decide +kernel
theorem dX4_sum_9 : decode cX4_sum 9 = .ok (.iload_n 3, 1) := by decide +kernel
theorem dX4_sum_10 : decode cX4_sum 10 = .ok (.sipush 400, 3) := by decide +kernel
theorem dX4_sum_13 : decode cX4_sum 13 = .ok (.if_icmp .ge 105, 3) := by decide +kernel
