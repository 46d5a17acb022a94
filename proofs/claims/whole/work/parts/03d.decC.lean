theorem dX8_law_30 : decode cX8_law 30 = .ok (.getfield 35, 3) := by decide +kernel
theorem dX8_law_33 : decode cX8_law 33 = .ok (.aload_n 0, 1) := by decide +kernel
theorem dX8_law_34 : decode cX8_law 34 = .ok (.getfield 24, 3) := by decide +kernel
theorem dX8_law_37 : decode cX8_law 37 = .ok (.iload_n 1, 1) := by decide +kernel
theorem dX8_law_38 : decode cX8_law 38 = .ok (.invokevirtual 153, 3) := by decide +kernel
theorem dX8_law_41 : decode cX8_law 41 = .ok (.astore_n 2, 1) := by decide +kernel
theorem dX8_law_42 : decode cX8_law 42 = .ok (.aload_n 0, 1) := by decide +kernel
theorem dX8_law_43 : decode cX8_law 43 = .ok (.aload_n 0, 1) := by decide +kernel
theorem dX8_law_44 : decode cX8_law 44 = .ok (.getfield 35, 3) := by decide +kernel
theorem dX8_law_47 : decode cX8_law 47 = .ok (.getfield 157, 3) := by decide +kernel
theorem dX8_law_50 : decode cX8_law 50 = .ok (.putfield 39, 3) := by decide +kernel
theorem dX8_law_53 : decode cX8_law 53 = .ok (.aload_n 2, 1) := by decide +kernel
theorem dX8_law_54 : decode cX8_law 54 = .ok (.ifnonnull 10, 3) := by decide +kernel
theorem dX8_law_57 : decode cX8_law 57 = .ok (.aload_n 0, 1) := by decide +kernel
theorem dX8_law_58 : decode cX8_law 58 = .ok (.bipush (-6), 2) := by decide +kernel
theorem dX8_law_60 : decode cX8_law 60 = .ok (.invokevirtual 89, 3) := by decide +kernel
theorem dX8_law_63 : decode cX8_law 63 = .ok (.ireturn, 1) := by decide +kernel
theorem dX8_law_64 : decode cX8_law 64 = .ok (.aload_n 0, 1) := by decide +kernel
theorem dX8_law_65 : decode cX8_law 65 = .ok (.getfield 12, 3) := by decide +kernel
theorem dX8_law_68 : decode cX8_law 68 = .ok (.getfield 158, 3) := by decide +kernel
theorem dX8_law_71 : decode cX8_law 71 = .ok (.aload_n 0, 1) := by decide +kernel
theorem dX8_law_72 : decode cX8_law 72 = .ok (.getfield 12, 3) := by decide +kernel
theorem dX8_law_75 : decode cX8_law 75 = .ok (.getfield 150, 3) := by decide +kernel
theorem dX8_law_78 : decode cX8_law 78 = .ok (.aload_n 2, 1) := by decide +kernel
theorem dX8_law_79 : decode cX8_law 79 = .ok (.aastore, 1) := by decide +kernel
theorem dX8_law_80 : decode cX8_law 80 = .ok (.aload_n 0, 1) := by decide +kernel
theorem dX8_law_81 : decode cX8_law 81 = .ok (.getfield 12, 3) := by decide +kernel
theorem dX8_law_84 : decode cX8_law 84 = .ok (.dup, 1) := by decide +kernel
theorem dX8_law_85 : decode cX8_law 85 = .ok (.getfield 150, 3) := by decide +kernel
theorem dX8_law_88 : decode cX8_law 88 = .ok (.iconst 1, 1) := by decide +kernel
theorem dX8_law_89 : decode cX8_law 89 = .ok (.iadd, 1) := by decide +kernel
theorem dX8_law_90 : decode cX8_law 90 = .ok (.putfield 150, 3) := by decide +kernel
theorem dX8_law_93 : decode cX8_law 93 = .ok (.aload_n 0, 1) := by decide +kernel
theorem dX8_law_94 : decode cX8_law 94 = .ok (.aload_n 0, 1) := by decide +kernel
theorem dX8_law_95 : decode cX8_law 95 = .ok (.getfield 12, 3) := by decide +kernel
theorem dX8_law_98 : decode cX8_law 98 = .ok (.getfield 150, 3) := by decide +kernel
theorem dX8_law_101 : decode cX8_law 101 = .ok (.iconst 1, 1) := by decide +kernel
theorem dX8_law_102 : decode cX8_law 102 = .ok (.isub, 1) := by decide +kernel
theorem dX8_law_103 : decode cX8_law 103 = .ok (.invokevirtual 103, 3) := by decide +kernel
theorem dX8_law_106 : decode cX8_law 106 = .ok (.ireturn, 1) := by decide +kernel
theorem dX8_fault_0 : decode cX8_fault 0 = .ok (.aload_n 0, 1) := by decide +kernel
theorem dX8_fault_1 : decode cX8_fault 1 = .ok (.getfield 39, 3) := by decide +kernel
theorem dX8_fault_4 : decode cX8_fault 4 = .ok (.ireturn, 1) := by decide +kernel
theorem dX8_force_0 : decode cX8_force 0 = .ok (.iload_n 1, 1) := by decide +kernel
theorem dX8_force_1 : decode cX8_force 1 = .ok (.iconst (-1), 1) := by decide +kernel
theorem dX8_force_2 : decode cX8_force 2 = .ok (.if_icmp .lt 14, 3) := by decide +kernel
theorem dX8_force_5 : decode cX8_force 5 = .ok (.iload_n 1, 1) := by decide +kernel
theorem dX8_force_6 : decode cX8_force 6 = .ok (.aload_n 0, 1) := by decide +kernel
theorem dX8_force_7 : decode cX8_force 7 = .ok (.getfield 12, 3) := by decide +kernel
theorem dX8_force_10 : decode cX8_force 10 = .ok (.getfield 150, 3) := by decide +kernel
theorem dX8_force_13 : decode cX8_force 13 = .ok (.if_icmp .lt 10, 3) := by decide +kernel
theorem dX8_force_16 : decode cX8_force 16 = .ok (.aload_n 0, 1) := by decide +kernel
theorem dX8_force_17 : decode cX8_force 17 = .ok (.bipush (-2), 2) := by decide +kernel
theorem dX8_force_19 : decode cX8_force 19 = .ok (.invokevirtual 89, 3) := by decide +kernel
theorem dX8_force_22 : decode cX8_force 22 = .ok (.ireturn, 1) := by decide +kernel
theorem dX8_force_23 : decode cX8_force 23 = .ok (.aload_n 0, 1) := by decide +kernel
theorem dX8_force_24 : decode cX8_force 24 = .ok (.getfield 12, 3) := by decide +kernel
theorem dX8_force_27 : decode cX8_force 27 = .ok (.getfield 162, 3) := by decide +kernel
theorem dX8_force_30 : decode cX8_force 30 = .ok (.istore_n 2, 1) := by decide +kernel
theorem dX8_force_31 : decode cX8_force 31 = .ok (.aload_n 0, 1) := by decide +kernel
theorem dX8_force_32 : decode cX8_force 32 = .ok (.getfield 12, 3) := by decide +kernel
theorem dX8_force_35 : decode cX8_force 35 = .ok (.iload_n 1, 1) := by decide +kernel
theorem dX8_force_36 : decode cX8_force 36 = .ok (.putfield 162, 3) := by decide +kernel
theorem dX8_force_39 : decode cX8_force 39 = .ok (.aload_n 0, 1) := by decide +kernel
theorem dX8_force_40 : decode cX8_force 40 = .ok (.getfield 48, 3) := by decide +kernel
theorem dX8_force_43 : decode cX8_force 43 = .ok (.invokevirtual 100, 3) := by decide +kernel
theorem dX8_force_46 : decode cX8_force 46 = .ok (.aload_n 0, 1) := by decide +kernel
theorem dX8_force_47 : decode cX8_force 47 = .ok (.iload_n 2, 1) := by decide +kernel
theorem dX8_force_48 : decode cX8_force 48 = .ok (.invokevirtual 103, 3) := by decide +kernel
theorem dX8_force_51 : decode cX8_force 51 = .ok (.ireturn, 1) := by decide +kernel
theorem dX8_tell_0 : decode cX8_tell 0 = .ok (.aload_n 0, 1) := by decide +kernel
theorem dX8_tell_1 : decode cX8_tell 1 = .ok (.getfield 12, 3) := by decide +kernel
theorem dX8_tell_4 : decode cX8_tell 4 = .ok (.iload_n 2, 1) := by decide +kernel
theorem dX8_tell_5 : decode cX8_tell 5 = .ok (.invokevirtual 134, 3) := by decide +kernel
theorem dX8_tell_8 : decode cX8_tell 8 = .ok (.ifCond .ne 9, 3) := by decide +kernel
theorem dX8_tell_11 : decode cX8_tell 11 = .ok (.aload_n 0, 1) := by decide +kernel
theorem dX8_tell_12 : decode cX8_tell 12 = .ok (.iconst (-1), 1) := by decide +kernel
theorem dX8_tell_13 : decode cX8_tell 13 = .ok (.invokevirtual 89, 3) := by decide +kernel
theorem dX8_tell_16 : decode cX8_tell 16 = .ok (.ireturn, 1) := by decide +kernel
theorem dX8_tell_17 : decode cX8_tell 17 = .ok (.aload_n 0, 1) := by decide +kernel
theorem dX8_tell_18 : decode cX8_tell 18 = .ok (.getfield 12, 3) := by decide +kernel
theorem dX8_tell_21 : decode cX8_tell 21 = .ok (.iload_n 1, 1) := by decide +kernel
theorem dX8_tell_22 : decode cX8_tell 22 = .ok (.invokevirtual 110, 3) := by decide +kernel
theorem dX8_tell_25 : decode cX8_tell 25 = .ok (.ifCond .ne 10, 3) := by decide +kernel
theorem dX8_tell_28 : decode cX8_tell 28 = .ok (.aload_n 0, 1) := by decide +kernel
theorem dX8_tell_29 : decode cX8_tell 29 = .ok (.bipush (-2), 2) := by decide +kernel
theorem dX8_tell_31 : decode cX8_tell 31 = .ok (.invokevirtual 89, 3) := by decide +kernel
theorem dX8_tell_34 : decode cX8_tell 34 = .ok (.ireturn, 1) := by decide +kernel
theorem dX8_tell_35 : decode cX8_tell 35 = .ok (.aload_n 0, 1) := by decide +kernel
theorem dX8_tell_36 : decode cX8_tell 36 = .ok (.getfield 48, 3) := by decide +kernel
theorem dX8_tell_39 : decode cX8_tell 39 = .ok (.aload_n 0, 1) := by decide +kernel
theorem dX8_tell_40 : decode cX8_tell 40 = .ok (.getfield 12, 3) := by decide +kernel
theorem dX8_tell_43 : decode cX8_tell 43 = .ok (.invokevirtual 124, 3) := by decide +kernel
theorem dX8_tell_46 : decode cX8_tell 46 = .ok (.aload_n 0, 1) := by decide +kernel
theorem dX8_tell_47 : decode cX8_tell 47 = .ok (.getfield 48, 3) := by decide +kernel
theorem dX8_tell_50 : decode cX8_tell 50 = .ok (.iload_n 1, 1) := by decide +kernel
theorem dX8_tell_51 : decode cX8_tell 51 = .ok (.aload_n 0, 1) := by decide +kernel
theorem dX8_tell_52 : decode cX8_tell 52 = .ok (.getfield 12, 3) := by decide +kernel
theorem dX8_tell_55 : decode cX8_tell 55 = .ok (.invokevirtual 165, 3) := by decide +kernel
theorem dX8_tell_58 : decode cX8_tell 58 = .ok (.invokevirtual 169, 3) := by decide +kernel
theorem dX8_tell_61 : decode cX8_tell 61 = .ok (.istore_n 3, 1) := by decide +kernel
theorem dX8_tell_62 : decode cX8_tell 62 = .ok (.aload_n 0, 1) := by decide +kernel
theorem dX8_tell_63 : decode cX8_tell 63 = .ok (.getfield 48, 3) := by decide +kernel
theorem dX8_tell_66 : decode cX8_tell 66 = .ok (.iload_n 1, 1) := by decide +kernel
theorem dX8_tell_67 : decode cX8_tell 67 = .ok (.iconst 1, 1) := by decide +kernel
theorem dX8_tell_68 : decode cX8_tell 68 = .ok (.aload_n 0, 1) := by decide +kernel
theorem dX8_tell_69 : decode cX8_tell 69 = .ok (.getfield 12, 3) := by decide +kernel
theorem dX8_tell_72 : decode cX8_tell 72 = .ok (.invokevirtual 173, 3) := by decide +kernel
theorem dX8_tell_75 : decode cX8_tell 75 = .ok (.ishl, 1) := by decide +kernel
theorem dX8_tell_76 : decode cX8_tell 76 = .ok (.invokevirtual 176, 3) := by decide +kernel
theorem dX8_tell_79 : decode cX8_tell 79 = .ok (.istore 4, 2) := by decide +kernel
theorem dX8_tell_81 : decode cX8_tell 81 = .ok (.aload_n 0, 1) := by decide +kernel
theorem dX8_tell_82 : decode cX8_tell 82 = .ok (.getfield 12, 3) := by decide +kernel
theorem dX8_tell_85 : decode cX8_tell 85 = .ok (.invokevirtual 179, 3) := by decide +kernel
theorem dX8_tell_88 : decode cX8_tell 88 = .ok (.iload_n 1, 1) := by decide +kernel
theorem dX8_tell_89 : decode cX8_tell 89 = .ok (.ishr, 1) := by decide +kernel
theorem dX8_tell_90 : decode cX8_tell 90 = .ok (.iconst 1, 1) := by decide +kernel
theorem dX8_tell_91 : decode cX8_tell 91 = .ok (.iand, 1) := by decide +kernel
theorem dX8_tell_92 : decode cX8_tell 92 = .ok (.ifCond .ne 17, 3) := by decide +kernel
theorem dX8_tell_95 : decode cX8_tell 95 = .ok (.iload_n 3, 1) := by decide +kernel
theorem dX8_tell_96 : decode cX8_tell 96 = .ok (.iconst (-1), 1) := by decide +kernel
theorem dX8_tell_97 : decode cX8_tell 97 = .ok (.if_icmp .eq 12, 3) := by decide +kernel
theorem dX8_tell_100 : decode cX8_tell 100 = .ok (.iload 4, 2) := by decide +kernel
theorem dX8_tell_102 : decode cX8_tell 102 = .ok (.iload_n 2, 1) := by decide +kernel
theorem dX8_tell_103 : decode cX8_tell 103 = .ok (.ishr, 1) := by decide +kernel
theorem dX8_tell_104 : decode cX8_tell 104 = .ok (.iconst 1, 1) := by decide +kernel
theorem dX8_tell_105 : decode cX8_tell 105 = .ok (.iand, 1) := by decide +kernel
theorem dX8_tell_106 : decode cX8_tell 106 = .ok (.ifCond .ne 10, 3) := by decide +kernel
theorem dX8_tell_109 : decode cX8_tell 109 = .ok (.aload_n 0, 1) := by decide +kernel
theorem dX8_tell_110 : decode cX8_tell 110 = .ok (.bipush (-3), 2) := by decide +kernel
theorem dX8_tell_112 : decode cX8_tell 112 = .ok (.invokevirtual 89, 3) := by decide +kernel
theorem dX8_tell_115 : decode cX8_tell 115 = .ok (.ireturn, 1) := by decide +kernel
theorem dX8_tell_116 : decode cX8_tell 116 = .ok (.aload_n 0, 1) := by decide +kernel
theorem dX8_tell_117 : decode cX8_tell 117 = .ok (.getfield 12, 3) := by decide +kernel
theorem dX8_tell_120 : decode cX8_tell 120 = .ok (.getfield 182, 3) := by decide +kernel
theorem dX8_tell_123 : decode cX8_tell 123 = .ok (.iload_n 1, 1) := by decide +kernel
theorem dX8_tell_124 : decode cX8_tell 124 = .ok (.iload_n 3, 1) := by decide +kernel
theorem dX8_tell_125 : decode cX8_tell 125 = .ok (.iload_n 2, 1) := by decide +kernel
theorem dX8_tell_126 : decode cX8_tell 126 = .ok (.invokevirtual 185, 3) := by decide +kernel
theorem dX8_tell_129 : decode cX8_tell 129 = .ok (.aload_n 0, 1) := by decide +kernel
theorem dX8_tell_130 : decode cX8_tell 130 = .ok (.iload_n 3, 1) := by decide +kernel
theorem dX8_tell_131 : decode cX8_tell 131 = .ok (.invokevirtual 103, 3) := by decide +kernel
theorem dX8_tell_134 : decode cX8_tell 134 = .ok (.ireturn, 1) := by decide +kernel
theorem dX8_hush_0 : decode cX8_hush 0 = .ok (.aload_n 0, 1) := by decide +kernel
theorem dX8_hush_1 : decode cX8_hush 1 = .ok (.getfield 12, 3) := by decide +kernel
theorem dX8_hush_4 : decode cX8_hush 4 = .ok (.getfield 182, 3) := by decide +kernel
theorem dX8_hush_7 : decode cX8_hush 7 = .ok (.invokevirtual 188, 3) := by decide +kernel
theorem dX8_hush_10 : decode cX8_hush 10 = .ok (.ireturn, 1) := by decide +kernel
theorem dX8_heard_0 : decode cX8_heard 0 = .ok (.aload_n 0, 1) := by decide +kernel
theorem dX8_heard_1 : decode cX8_heard 1 = .ok (.getfield 12, 3) := by decide +kernel
theorem dX8_heard_4 : decode cX8_heard 4 = .ok (.getfield 182, 3) := by decide +kernel
theorem dX8_heard_7 : decode cX8_heard 7 = .ok (.iload_n 1, 1) := by decide +kernel
theorem dX8_heard_8 : decode cX8_heard 8 = .ok (.iload_n 2, 1) := by decide +kernel
theorem dX8_heard_9 : decode cX8_heard 9 = .ok (.invokevirtual 191, 3) := by decide +kernel
theorem dX8_heard_12 : decode cX8_heard 12 = .ok (.ireturn, 1) := by decide +kernel
theorem dX8_open_0 : decode cX8_open 0 = .ok (.aload_n 0, 1) := by decide +kernel
theorem dX8_open_1 : decode cX8_open 1 = .ok (.getfield 48, 3) := by decide +kernel
theorem dX8_open_4 : decode cX8_open 4 = .ok (.aload_n 0, 1) := by decide +kernel
theorem dX8_open_5 : decode cX8_open 5 = .ok (.getfield 12, 3) := by decide +kernel
theorem dX8_open_8 : decode cX8_open 8 = .ok (.invokevirtual 124, 3) := by decide +kernel
theorem dX8_open_11 : decode cX8_open 11 = .ok (.aload_n 0, 1) := by decide +kernel
theorem dX8_open_12 : decode cX8_open 12 = .ok (.getfield 12, 3) := by decide +kernel
theorem dX8_open_15 : decode cX8_open 15 = .ok (.invokevirtual 194, 3) := by decide +kernel
theorem dX8_open_18 : decode cX8_open 18 = .ok (.istore_n 1, 1) := by decide +kernel
theorem dX8_open_19 : decode cX8_open 19 = .ok (.iconst 0, 1) := by decide +kernel
theorem dX8_open_20 : decode cX8_open 20 = .ok (.istore_n 2, 1) := by decide +kernel
theorem dX8_open_21 : decode cX8_open 21 = .ok (.iconst 0, 1) := by decide +kernel
theorem dX8_open_22 : decode cX8_open 22 = .ok (.istore_n 3, 1) := by decide +kernel
theorem dX8_open_23 : decode cX8_open 23 = .ok (.iload_n 3, 1) := by decide +kernel
theorem dX8_open_24 : decode cX8_open 24 = .ok (.aload_n 0, 1) := by decide +kernel
theorem dX8_open_25 : decode cX8_open 25 = .ok (.getfield 12, 3) := by decide +kernel
theorem dX8_open_28 : decode cX8_open 28 = .ok (.getfield 93, 3) := by decide +kernel
theorem dX8_open_31 : decode cX8_open 31 = .ok (.if_icmp .ge 74, 3) := by decide +kernel
theorem dX8_open_34 : decode cX8_open 34 = .ok (.aload_n 0, 1) := by decide +kernel
theorem dX8_open_35 : decode cX8_open 35 = .ok (.getfield 48, 3) := by decide +kernel
theorem dX8_open_38 : decode cX8_open 38 = .ok (.iload_n 3, 1) := by decide +kernel
theorem dX8_open_39 : decode cX8_open 39 = .ok (.aload_n 0, 1) := by decide +kernel
theorem dX8_open_40 : decode cX8_open 40 = .ok (.getfield 12, 3) := by decide +kernel
theorem dX8_open_43 : decode cX8_open 43 = .ok (.invokevirtual 165, 3) := by decide +kernel
theorem dX8_open_46 : decode cX8_open 46 = .ok (.invokevirtual 169, 3) := by decide +kernel
theorem dX8_open_49 : decode cX8_open 49 = .ok (.iconst (-1), 1) := by decide +kernel
theorem dX8_open_50 : decode cX8_open 50 = .ok (.if_icmp .eq 27, 3) := by decide +kernel
theorem dX8_open_53 : decode cX8_open 53 = .ok (.aload_n 0, 1) := by decide +kernel
theorem dX8_open_54 : decode cX8_open 54 = .ok (.getfield 48, 3) := by decide +kernel
theorem dX8_open_57 : decode cX8_open 57 = .ok (.iload_n 3, 1) := by decide +kernel
theorem dX8_open_58 : decode cX8_open 58 = .ok (.iconst 1, 1) := by decide +kernel
theorem dX8_open_59 : decode cX8_open 59 = .ok (.aload_n 0, 1) := by decide +kernel
theorem dX8_open_60 : decode cX8_open 60 = .ok (.getfield 12, 3) := by decide +kernel
theorem dX8_open_63 : decode cX8_open 63 = .ok (.invokevirtual 173, 3) := by decide +kernel
theorem dX8_open_66 : decode cX8_open 66 = .ok (.ishl, 1) := by decide +kernel
theorem dX8_open_67 : decode cX8_open 67 = .ok (.invokevirtual 176, 3) := by decide +kernel
theorem dX8_open_70 : decode cX8_open 70 = .ok (.ifCond .eq 7, 3) := by decide +kernel
theorem dX8_open_73 : decode cX8_open 73 = .ok (.iconst 1, 1) := by decide +kernel
theorem dX8_open_74 : decode cX8_open 74 = .ok (.goto 4, 3) := by decide +kernel
theorem dX8_open_77 : decode cX8_open 77 = .ok (.iconst 0, 1) := by decide +kernel
theorem dX8_open_78 : decode cX8_open 78 = .ok (.istore 4, 2) := by decide +kernel
theorem dX8_open_80 : decode cX8_open 80 = .ok (.iload 4, 2) := by decide +kernel
theorem dX8_open_82 : decode cX8_open 82 = .ok (.ifCond .eq 17, 3) := by decide +kernel
theorem dX8_open_85 : decode cX8_open 85 = .ok (.iload_n 1, 1) := by decide +kernel
theorem dX8_open_86 : decode cX8_open 86 = .ok (.iload_n 3, 1) := by decide +kernel
theorem dX8_open_87 : decode cX8_open 87 = .ok (.ishr, 1) := by decide +kernel
theorem dX8_open_88 : decode cX8_open 88 = .ok (.iconst 1, 1) := by decide +kernel
theorem dX8_open_89 : decode cX8_open 89 = .ok (.iand, 1) := by decide +kernel
theorem dX8_open_90 : decode cX8_open 90 = .ok (.ifCond .eq 9, 3) := by decide +kernel
theorem dX8_open_93 : decode cX8_open 93 = .ok (.iload_n 2, 1) := by decide +kernel
theorem dX8_open_94 : decode cX8_open 94 = .ok (.iconst 1, 1) := by decide +kernel
theorem dX8_open_95 : decode cX8_open 95 = .ok (.iload_n 3, 1) := by decide +kernel
theorem dX8_open_96 : decode cX8_open 96 = .ok (.ishl, 1) := by decide +kernel
theorem dX8_open_97 : decode cX8_open 97 = .ok (.ior, 1) := by decide +kernel
theorem dX8_open_98 : decode cX8_open 98 = .ok (.istore_n 2, 1) := by decide +kernel
theorem dX8_open_99 : decode cX8_open 99 = .ok (.iinc 3 1, 3) := by decide +kernel
theorem dX8_open_102 : decode cX8_open 102 = .ok (.goto (-79), 3) := by decide +kernel
theorem dX8_open_105 : decode cX8_open 105 = .ok (.iload_n 2, 1) := by decide +kernel
theorem dX8_open_106 : decode cX8_open 106 = .ok (.ireturn, 1) := by decide +kernel
theorem dX8_goes_0 : decode cX8_goes 0 = .ok (.iload_n 1, 1) := by decide +kernel
theorem dX8_goes_1 : decode cX8_goes 1 = .ok (.aload_n 0, 1) := by decide +kernel
theorem dX8_goes_2 : decode cX8_goes 2 = .ok (.getfield 12, 3) := by decide +kernel
theorem dX8_goes_5 : decode cX8_goes 5 = .ok (.invokevirtual 194, 3) := by decide +kernel
theorem dX8_goes_8 : decode cX8_goes 8 = .ok (.iconst (-1), 1) := by decide +kernel
theorem dX8_goes_9 : decode cX8_goes 9 = .ok (.ixor, 1) := by decide +kernel
theorem dX8_goes_10 : decode cX8_goes 10 = .ok (.iand, 1) := by decide +kernel
theorem dX8_goes_11 : decode cX8_goes 11 = .ok (.ifCond .eq 5, 3) := by decide +kernel
theorem dX8_goes_14 : decode cX8_goes 14 = .ok (.iconst (-1), 1) := by decide +kernel
theorem dX8_goes_15 : decode cX8_goes 15 = .ok (.ireturn, 1) := by decide +kernel
theorem dX8_goes_16 : decode cX8_goes 16 = .ok (.aload_n 0, 1) := by decide +kernel
theorem dX8_goes_17 : decode cX8_goes 17 = .ok (.getfield 48, 3) := by decide +kernel
theorem dX8_goes_20 : decode cX8_goes 20 = .ok (.aload_n 0, 1) := by decide +kernel
theorem dX8_goes_21 : decode cX8_goes 21 = .ok (.getfield 12, 3) := by decide +kernel
theorem dX8_goes_24 : decode cX8_goes 24 = .ok (.invokevirtual 197, 3) := by decide +kernel
theorem dX8_goes_27 : decode cX8_goes 27 = .ok (.aload_n 0, 1) := by decide +kernel
theorem dX8_goes_28 : decode cX8_goes 28 = .ok (.getfield 48, 3) := by decide +kernel
theorem dX8_goes_31 : decode cX8_goes 31 = .ok (.iload_n 1, 1) := by decide +kernel
theorem dX8_goes_32 : decode cX8_goes 32 = .ok (.aload_n 0, 1) := by decide +kernel
theorem dX8_goes_33 : decode cX8_goes 33 = .ok (.getfield 12, 3) := by decide +kernel
theorem dX8_goes_36 : decode cX8_goes 36 = .ok (.invokevirtual 165, 3) := by decide +kernel
theorem dX8_goes_39 : decode cX8_goes 39 = .ok (.aload_n 0, 1) := by decide +kernel
theorem dX8_goes_40 : decode cX8_goes 40 = .ok (.getfield 12, 3) := by decide +kernel
theorem dX8_goes_43 : decode cX8_goes 43 = .ok (.invokevirtual 173, 3) := by decide +kernel
theorem dX8_goes_46 : decode cX8_goes 46 = .ok (.invokevirtual 200, 3) := by decide +kernel
theorem dX8_goes_49 : decode cX8_goes 49 = .ok (.ifCond .eq 7, 3) := by decide +kernel
theorem dX8_goes_52 : decode cX8_goes 52 = .ok (.iconst 1, 1) := by decide +kernel
theorem dX8_goes_53 : decode cX8_goes 53 = .ok (.goto 4, 3) := by decide +kernel
theorem dX8_goes_56 : decode cX8_goes 56 = .ok (.iconst 0, 1) := by decide +kernel
theorem dX8_goes_57 : decode cX8_goes 57 = .ok (.ireturn, 1) := by decide +kernel
theorem dX8_best_0 : decode cX8_best 0 = .ok (.iload_n 1, 1) := by decide +kernel
theorem dX8_best_1 : decode cX8_best 1 = .ok (.ifCond .lt 17, 3) := by decide +kernel
theorem dX8_best_4 : decode cX8_best 4 = .ok (.iload_n 1, 1) := by decide +kernel
theorem dX8_best_5 : decode cX8_best 5 = .ok (.iconst 1, 1) := by decide +kernel
theorem dX8_best_6 : decode cX8_best 6 = .ok (.if_icmp .gt 12, 3) := by decide +kernel
theorem dX8_best_9 : decode cX8_best 9 = .ok (.iload_n 2, 1) := by decide +kernel
theorem dX8_best_10 : decode cX8_best 10 = .ok (.ifCond .lt 8, 3) := by decide +kernel
theorem dX8_best_13 : decode cX8_best 13 = .ok (.iload_n 2, 1) := by decide +kernel
theorem dX8_best_14 : decode cX8_best 14 = .ok (.iconst 3, 1) := by decide +kernel
theorem dX8_best_15 : decode cX8_best 15 = .ok (.if_icmp .le 5, 3) := by decide +kernel
theorem dX8_best_18 : decode cX8_best 18 = .ok (.iconst (-1), 1) := by decide +kernel
theorem dX8_best_19 : decode cX8_best 19 = .ok (.ireturn, 1) := by decide +kernel
theorem dX8_best_20 : decode cX8_best 20 = .ok (.aload_n 0, 1) := by decide +kernel
theorem dX8_best_21 : decode cX8_best 21 = .ok (.getfield 48, 3) := by decide +kernel
theorem dX8_best_24 : decode cX8_best 24 = .ok (.aload_n 0, 1) := by decide +kernel
theorem dX8_best_25 : decode cX8_best 25 = .ok (.getfield 12, 3) := by decide +kernel
theorem dX8_best_28 : decode cX8_best 28 = .ok (.invokevirtual 197, 3) := by decide +kernel
theorem dX8_best_31 : decode cX8_best 31 = .ok (.aload_n 0, 1) := by decide +kernel
theorem dX8_best_32 : decode cX8_best 32 = .ok (.getfield 48, 3) := by decide +kernel
theorem dX8_best_35 : decode cX8_best 35 = .ok (.aload_n 0, 1) := by decide +kernel
theorem dX8_best_36 : decode cX8_best 36 = .ok (.getfield 12, 3) := by decide +kernel
theorem dX8_best_39 : decode cX8_best 39 = .ok (.iload_n 1, 1) := by decide +kernel
theorem dX8_best_40 : decode cX8_best 40 = .ok (.iconst 1, 1) := by decide +kernel
theorem dX8_best_41 : decode cX8_best 41 = .ok (.if_icmp .ne 7, 3) := by decide +kernel
theorem dX8_best_44 : decode cX8_best 44 = .ok (.iconst 1, 1) := by decide +kernel
theorem dX8_best_45 : decode cX8_best 45 = .ok (.goto 4, 3) := by decide +kernel
theorem dX8_best_48 : decode cX8_best 48 = .ok (.iconst 0, 1) := by decide +kernel
theorem dX8_best_49 : decode cX8_best 49 = .ok (.invokevirtual 204, 3) := by decide +kernel
theorem dX8_best_52 : decode cX8_best 52 = .ok (.iload_n 2, 1) := by decide +kernel
theorem dX8_best_53 : decode cX8_best 53 = .ok (.ifCond .ne 19, 3) := by decide +kernel
theorem dX8_best_56 : decode cX8_best 56 = .ok (.aload_n 0, 1) := by decide +kernel
theorem dX8_best_57 : decode cX8_best 57 = .ok (.getfield 48, 3) := by decide +kernel
theorem dX8_best_60 : decode cX8_best 60 = .ok (.getfield 208, 3) := by decide +kernel
theorem dX8_best_63 : decode cX8_best 63 = .ok (.aload_n 0, 1) := by decide +kernel
theorem dX8_best_64 : decode cX8_best 64 = .ok (.getfield 48, 3) := by decide +kernel
theorem dX8_best_67 : decode cX8_best 67 = .ok (.getfield 211, 3) := by decide +kernel
theorem dX8_best_70 : decode cX8_best 70 = .ok (.iaload, 1) := by decide +kernel
theorem dX8_best_71 : decode cX8_best 71 = .ok (.ireturn, 1) := by decide +kernel
theorem dX8_best_72 : decode cX8_best 72 = .ok (.iload_n 2, 1) := by decide +kernel
theorem dX8_best_73 : decode cX8_best 73 = .ok (.iconst 1, 1) := by decide +kernel
theorem dX8_best_74 : decode cX8_best 74 = .ok (.if_icmp .ne 14, 3) := by decide +kernel
theorem dX8_best_77 : decode cX8_best 77 = .ok (.aload_n 0, 1) := by decide +kernel
theorem dX8_best_78 : decode cX8_best 78 = .ok (.getfield 48, 3) := by decide +kernel
theorem dX8_best_81 : decode cX8_best 81 = .ok (.getfield 211, 3) := by decide +kernel
theorem dX8_best_84 : decode cX8_best 84 = .ok (.invokestatic 214, 3) := by decide +kernel
theorem dX8_best_87 : decode cX8_best 87 = .ok (.ireturn, 1) := by decide +kernel
theorem dX8_best_88 : decode cX8_best 88 = .ok (.iload_n 2, 1) := by decide +kernel
theorem dX8_best_89 : decode cX8_best 89 = .ok (.iconst 2, 1) := by decide +kernel
theorem dX8_best_90 : decode cX8_best 90 = .ok (.if_icmp .ne 13, 3) := by decide +kernel
theorem dX8_best_93 : decode cX8_best 93 = .ok (.aload_n 0, 1) := by decide +kernel
theorem dX8_best_94 : decode cX8_best 94 = .ok (.getfield 48, 3) := by decide +kernel
theorem dX8_best_97 : decode cX8_best 97 = .ok (.getfield 211, 3) := by decide +kernel
theorem dX8_best_100 : decode cX8_best 100 = .ok (.goto 10, 3) := by decide +kernel
theorem dX8_best_103 : decode cX8_best 103 = .ok (.aload_n 0, 1) := by decide +kernel
theorem dX8_best_104 : decode cX8_best 104 = .ok (.getfield 48, 3) := by decide +kernel
theorem dX8_best_107 : decode cX8_best 107 = .ok (.getfield 219, 3) := by decide +kernel
theorem dX8_best_110 : decode cX8_best 110 = .ok (.ireturn, 1) := by decide +kernel
theorem dX8_order_0 : decode cX8_order 0 = .ok (.iload_n 1, 1) := by decide +kernel
theorem dX8_order_1 : decode cX8_order 1 = .ok (.aload_n 0, 1) := by decide +kernel
theorem dX8_order_2 : decode cX8_order 2 = .ok (.getfield 12, 3) := by decide +kernel
theorem dX8_order_5 : decode cX8_order 5 = .ok (.invokevirtual 194, 3) := by decide +kernel
theorem dX8_order_8 : decode cX8_order 8 = .ok (.iconst (-1), 1) := by decide +kernel
theorem dX8_order_9 : decode cX8_order 9 = .ok (.ixor, 1) := by decide +kernel
theorem dX8_order_10 : decode cX8_order 10 = .ok (.iand, 1) := by decide +kernel
theorem dX8_order_11 : decode cX8_order 11 = .ok (.ifCond .eq 5, 3) := by decide +kernel
theorem dX8_order_14 : decode cX8_order 14 = .ok (.iconst (-1), 1) := by decide +kernel
theorem dX8_order_15 : decode cX8_order 15 = .ok (.ireturn, 1) := by decide +kernel
theorem dX8_order_16 : decode cX8_order 16 = .ok (.aload_n 0, 1) := by decide +kernel
theorem dX8_order_17 : decode cX8_order 17 = .ok (.getfield 48, 3) := by decide +kernel
theorem dX8_order_20 : decode cX8_order 20 = .ok (.aload_n 0, 1) := by decide +kernel
theorem dX8_order_21 : decode cX8_order 21 = .ok (.getfield 12, 3) := by decide +kernel
theorem dX8_order_24 : decode cX8_order 24 = .ok (.invokevirtual 197, 3) := by decide +kernel
theorem dX8_order_27 : decode cX8_order 27 = .ok (.aload_n 0, 1) := by decide +kernel
theorem dX8_order_28 : decode cX8_order 28 = .ok (.getfield 48, 3) := by decide +kernel
theorem dX8_order_31 : decode cX8_order 31 = .ok (.iload_n 1, 1) := by decide +kernel
theorem dX8_order_32 : decode cX8_order 32 = .ok (.aload_n 0, 1) := by decide +kernel
theorem dX8_order_33 : decode cX8_order 33 = .ok (.getfield 12, 3) := by decide +kernel
theorem dX8_order_36 : decode cX8_order 36 = .ok (.invokevirtual 165, 3) := by decide +kernel
theorem dX8_order_39 : decode cX8_order 39 = .ok (.aload_n 0, 1) := by decide +kernel
theorem dX8_order_40 : decode cX8_order 40 = .ok (.getfield 12, 3) := by decide +kernel
theorem dX8_order_43 : decode cX8_order 43 = .ok (.invokevirtual 173, 3) := by decide +kernel
theorem dX8_order_46 : decode cX8_order 46 = .ok (.invokevirtual 200, 3) := by decide +kernel
theorem dX8_order_49 : decode cX8_order 49 = .ok (.ifCond .ne 5, 3) := by decide +kernel
theorem dX8_order_52 : decode cX8_order 52 = .ok (.iconst (-1), 1) := by decide +kernel
theorem dX8_order_53 : decode cX8_order 53 = .ok (.ireturn, 1) := by decide +kernel
theorem dX8_order_54 : decode cX8_order 54 = .ok (.aload_n 0, 1) := by decide +kernel
theorem dX8_order_55 : decode cX8_order 55 = .ok (.getfield 48, 3) := by decide +kernel
theorem dX8_order_58 : decode cX8_order 58 = .ok (.aload_n 0, 1) := by decide +kernel
theorem dX8_order_59 : decode cX8_order 59 = .ok (.getfield 12, 3) := by decide +kernel
theorem dX8_order_62 : decode cX8_order 62 = .ok (.iload_n 1, 1) := by decide +kernel
theorem dX8_order_63 : decode cX8_order 63 = .ok (.aload_n 0, 1) := by decide +kernel
theorem dX8_order_64 : decode cX8_order 64 = .ok (.getfield 69, 3) := by decide +kernel
theorem dX8_order_67 : decode cX8_order 67 = .ok (.invokevirtual 222, 3) := by decide +kernel
theorem dX8_order_70 : decode cX8_order 70 = .ok (.aload_n 0, 1) := by decide +kernel
theorem dX8_order_71 : decode cX8_order 71 = .ok (.getfield 69, 3) := by decide +kernel
theorem dX8_order_74 : decode cX8_order 74 = .ok (.iload_n 2, 1) := by decide +kernel
theorem dX8_order_75 : decode cX8_order 75 = .ok (.iload_n 3, 1) := by decide +kernel
theorem dX8_order_76 : decode cX8_order 76 = .ok (.invokevirtual 191, 3) := by decide +kernel
theorem dX8_order_79 : decode cX8_order 79 = .ok (.ireturn, 1) := by decide +kernel
theorem dX8_orders_0 : decode cX8_orders 0 = .ok (.iload_n 1, 1) := by decide +kernel
theorem dX8_orders_1 : decode cX8_orders 1 = .ok (.aload_n 0, 1) := by decide +kernel
theorem dX8_orders_2 : decode cX8_orders 2 = .ok (.getfield 12, 3) := by decide +kernel
theorem dX8_orders_5 : decode cX8_orders 5 = .ok (.invokevirtual 194, 3) := by decide +kernel
theorem dX8_orders_8 : decode cX8_orders 8 = .ok (.iconst (-1), 1) := by decide +kernel
theorem dX8_orders_9 : decode cX8_orders 9 = .ok (.ixor, 1) := by decide +kernel
theorem dX8_orders_10 : decode cX8_orders 10 = .ok (.iand, 1) := by decide +kernel
theorem dX8_orders_11 : decode cX8_orders 11 = .ok (.ifCond .ne 12, 3) := by decide +kernel
theorem dX8_orders_14 : decode cX8_orders 14 = .ok (.iload_n 1, 1) := by decide +kernel
theorem dX8_orders_15 : decode cX8_orders 15 = .ok (.invokestatic 214, 3) := by decide +kernel
theorem dX8_orders_18 : decode cX8_orders 18 = .ok (.bipush 7, 2) := by decide +kernel
theorem dX8_orders_20 : decode cX8_orders 20 = .ok (.if_icmp .le 5, 3) := by decide +kernel
theorem dX8_orders_23 : decode cX8_orders 23 = .ok (.iconst (-1), 1) := by decide +kernel
theorem dX8_orders_24 : decode cX8_orders 24 = .ok (.ireturn, 1) := by decide +kernel
theorem dX8_orders_25 : decode cX8_orders 25 = .ok (.aload_n 0, 1) := by decide +kernel
theorem dX8_orders_26 : decode cX8_orders 26 = .ok (.getfield 48, 3) := by decide +kernel
theorem dX8_orders_29 : decode cX8_orders 29 = .ok (.aload_n 0, 1) := by decide +kernel
theorem dX8_orders_30 : decode cX8_orders 30 = .ok (.getfield 12, 3) := by decide +kernel
theorem dX8_orders_33 : decode cX8_orders 33 = .ok (.invokevirtual 124, 3) := by decide +kernel
theorem dX8_orders_36 : decode cX8_orders 36 = .ok (.aload_n 0, 1) := by decide +kernel
theorem dX8_orders_37 : decode cX8_orders 37 = .ok (.getfield 48, 3) := by decide +kernel
theorem dX8_orders_40 : decode cX8_orders 40 = .ok (.iload_n 1, 1) := by decide +kernel
theorem dX8_orders_41 : decode cX8_orders 41 = .ok (.aload_n 0, 1) := by decide +kernel
theorem dX8_orders_42 : decode cX8_orders 42 = .ok (.getfield 12, 3) := by decide +kernel
theorem dX8_orders_45 : decode cX8_orders 45 = .ok (.invokevirtual 165, 3) := by decide +kernel
theorem dX8_orders_48 : decode cX8_orders 48 = .ok (.iconst 1, 1) := by decide +kernel
theorem dX8_orders_49 : decode cX8_orders 49 = .ok (.aload_n 0, 1) := by decide +kernel
theorem dX8_orders_50 : decode cX8_orders 50 = .ok (.getfield 12, 3) := by decide +kernel
theorem dX8_orders_53 : decode cX8_orders 53 = .ok (.invokevirtual 173, 3) := by decide +kernel
theorem dX8_orders_56 : decode cX8_orders 56 = .ok (.ishl, 1) := by decide +kernel
theorem dX8_orders_57 : decode cX8_orders 57 = .ok (.iconst 0, 1) := by decide +kernel
theorem dX8_orders_58 : decode cX8_orders 58 = .ok (.invokevirtual 226, 3) := by decide +kernel
theorem dX8_orders_61 : decode cX8_orders 61 = .ok (.ireturn, 1) := by decide +kernel
theorem dX8_duel_0 : decode cX8_duel 0 = .ok (.aload_n 0, 1) := by decide +kernel
theorem dX8_duel_1 : decode cX8_duel 1 = .ok (.getfield 12, 3) := by decide +kernel
theorem dX8_duel_4 : decode cX8_duel 4 = .ok (.invokevirtual 194, 3) := by decide +kernel
theorem dX8_duel_7 : decode cX8_duel 7 = .ok (.istore_n 2, 1) := by decide +kernel
theorem dX8_duel_8 : decode cX8_duel 8 = .ok (.iload_n 1, 1) := by decide +kernel
theorem dX8_duel_9 : decode cX8_duel 9 = .ok (.ifCond .lt 17, 3) := by decide +kernel
theorem dX8_duel_12 : decode cX8_duel 12 = .ok (.iload_n 1, 1) := by decide +kernel
theorem dX8_duel_13 : decode cX8_duel 13 = .ok (.iconst 1, 1) := by decide +kernel
theorem dX8_duel_14 : decode cX8_duel 14 = .ok (.if_icmp .gt 12, 3) := by decide +kernel
theorem dX8_duel_17 : decode cX8_duel 17 = .ok (.iload_n 2, 1) := by decide +kernel
theorem dX8_duel_18 : decode cX8_duel 18 = .ok (.invokestatic 214, 3) := by decide +kernel
theorem dX8_duel_21 : decode cX8_duel 21 = .ok (.bipush 7, 2) := by decide +kernel
theorem dX8_duel_23 : decode cX8_duel 23 = .ok (.if_icmp .le 5, 3) := by decide +kernel
theorem dX8_duel_26 : decode cX8_duel 26 = .ok (.iconst (-1), 1) := by decide +kernel
theorem dX8_duel_27 : decode cX8_duel 27 = .ok (.ireturn, 1) := by decide +kernel
theorem dX8_duel_28 : decode cX8_duel 28 = .ok (.aload_n 0, 1) := by decide +kernel
theorem dX8_duel_29 : decode cX8_duel 29 = .ok (.getfield 48, 3) := by decide +kernel
theorem dX8_duel_32 : decode cX8_duel 32 = .ok (.aload_n 0, 1) := by decide +kernel
theorem dX8_duel_33 : decode cX8_duel 33 = .ok (.getfield 12, 3) := by decide +kernel
theorem dX8_duel_36 : decode cX8_duel 36 = .ok (.invokevirtual 124, 3) := by decide +kernel
theorem dX8_duel_39 : decode cX8_duel 39 = .ok (.aload_n 0, 1) := by decide +kernel
theorem dX8_duel_40 : decode cX8_duel 40 = .ok (.getfield 12, 3) := by decide +kernel
theorem dX8_duel_43 : decode cX8_duel 43 = .ok (.invokevirtual 173, 3) := by decide +kernel
theorem dX8_duel_46 : decode cX8_duel 46 = .ok (.ifCond .ne 7, 3) := by decide +kernel
theorem dX8_duel_49 : decode cX8_duel 49 = .ok (.iconst 1, 1) := by decide +kernel
theorem dX8_duel_50 : decode cX8_duel 50 = .ok (.goto 4, 3) := by decide +kernel
theorem dX8_duel_53 : decode cX8_duel 53 = .ok (.iconst 0, 1) := by decide +kernel
theorem dX8_duel_54 : decode cX8_duel 54 = .ok (.istore_n 3, 1) := by decide +kernel
theorem dX8_duel_55 : decode cX8_duel 55 = .ok (.aload_n 0, 1) := by decide +kernel
theorem dX8_duel_56 : decode cX8_duel 56 = .ok (.getfield 48, 3) := by decide +kernel
theorem dX8_duel_59 : decode cX8_duel 59 = .ok (.iload_n 2, 1) := by decide +kernel
theorem dX8_duel_60 : decode cX8_duel 60 = .ok (.aload_n 0, 1) := by decide +kernel
theorem dX8_duel_61 : decode cX8_duel 61 = .ok (.getfield 12, 3) := by decide +kernel
theorem dX8_duel_64 : decode cX8_duel 64 = .ok (.invokevirtual 165, 3) := by decide +kernel
theorem dX8_duel_67 : decode cX8_duel 67 = .ok (.iload_n 3, 1) := by decide +kernel
theorem dX8_duel_68 : decode cX8_duel 68 = .ok (.iconst 0, 1) := by decide +kernel
theorem dX8_duel_69 : decode cX8_duel 69 = .ok (.invokevirtual 230, 3) := by decide +kernel
theorem dX8_duel_72 : decode cX8_duel 72 = .ok (.istore 4, 2) := by decide +kernel
theorem dX8_duel_74 : decode cX8_duel 74 = .ok (.iload_n 1, 1) := by decide +kernel
theorem dX8_duel_75 : decode cX8_duel 75 = .ok (.iconst 1, 1) := by decide +kernel
theorem dX8_duel_76 : decode cX8_duel 76 = .ok (.if_icmp .ne 6, 3) := by decide +kernel
theorem dX8_duel_79 : decode cX8_duel 79 = .ok (.iload 4, 2) := by decide +kernel
theorem dX8_duel_81 : decode cX8_duel 81 = .ok (.ireturn, 1) := by decide +kernel
theorem dX8_duel_82 : decode cX8_duel 82 = .ok (.iload 4, 2) := by decide +kernel
theorem dX8_duel_84 : decode cX8_duel 84 = .ok (.iconst (-1), 1) := by decide +kernel
theorem dX8_duel_85 : decode cX8_duel 85 = .ok (.if_icmp .ne 9, 3) := by decide +kernel
theorem dX8_duel_88 : decode cX8_duel 88 = .ok (.iconst 1, 1) := by decide +kernel
theorem dX8_duel_89 : decode cX8_duel 89 = .ok (.iload_n 3, 1) := by decide +kernel
theorem dX8_duel_90 : decode cX8_duel 90 = .ok (.isub, 1) := by decide +kernel
theorem dX8_duel_91 : decode cX8_duel 91 = .ok (.goto 4, 3) := by decide +kernel
theorem dX8_duel_94 : decode cX8_duel 94 = .ok (.iload_n 3, 1) := by decide +kernel
theorem dX8_duel_95 : decode cX8_duel 95 = .ok (.ireturn, 1) := by decide +kernel
theorem dX8_winter_0 : decode cX8_winter 0 = .ok (.iload_n 1, 1) := by decide +kernel
theorem dX8_winter_1 : decode cX8_winter 1 = .ok (.iconst 1, 1) := by decide +kernel
theorem dX8_winter_2 : decode cX8_winter 2 = .ok (.if_icmp .lt 18, 3) := by decide +kernel
theorem dX8_winter_5 : decode cX8_winter 5 = .ok (.iload_n 1, 1) := by decide +kernel
theorem dX8_winter_6 : decode cX8_winter 6 = .ok (.iconst 4, 1) := by decide +kernel
theorem dX8_winter_7 : decode cX8_winter 7 = .ok (.if_icmp .gt 13, 3) := by decide +kernel
theorem dX8_winter_10 : decode cX8_winter 10 = .ok (.iload_n 2, 1) := by decide +kernel
theorem dX8_winter_11 : decode cX8_winter 11 = .ok (.iconst (-1), 1) := by decide +kernel
theorem dX8_winter_12 : decode cX8_winter 12 = .ok (.if_icmp .lt 8, 3) := by decide +kernel
theorem dX8_winter_15 : decode cX8_winter 15 = .ok (.iload_n 2, 1) := by decide +kernel
theorem dX8_winter_16 : decode cX8_winter 16 = .ok (.iload_n 1, 1) := by decide +kernel
theorem dX8_winter_17 : decode cX8_winter 17 = .ok (.if_icmp .lt 5, 3) := by decide +kernel
theorem dX8_winter_20 : decode cX8_winter 20 = .ok (.iconst (-1), 1) := by decide +kernel
theorem dX8_winter_21 : decode cX8_winter 21 = .ok (.ireturn, 1) := by decide +kernel
theorem dX8_winter_22 : decode cX8_winter 22 = .ok (.aload_n 0, 1) := by decide +kernel
theorem dX8_winter_23 : decode cX8_winter 23 = .ok (.getfield 48, 3) := by decide +kernel
theorem dX8_winter_26 : decode cX8_winter 26 = .ok (.aload_n 0, 1) := by decide +kernel
theorem dX8_winter_27 : decode cX8_winter 27 = .ok (.getfield 12, 3) := by decide +kernel
theorem dX8_winter_30 : decode cX8_winter 30 = .ok (.invokevirtual 197, 3) := by decide +kernel
theorem dX8_winter_33 : decode cX8_winter 33 = .ok (.aload_n 0, 1) := by decide +kernel
theorem dX8_winter_34 : decode cX8_winter 34 = .ok (.getfield 55, 3) := by decide +kernel
theorem dX8_winter_37 : decode cX8_winter 37 = .ok (.ifnonnull 14, 3) := by decide +kernel
theorem dX8_winter_40 : decode cX8_winter 40 = .ok (.aload_n 0, 1) := by decide +kernel
theorem dX8_winter_41 : decode cX8_winter 41 = .ok (.new 233, 3) := by decide +kernel
theorem dX8_winter_44 : decode cX8_winter 44 = .ok (.dup, 1) := by decide +kernel
theorem dX8_winter_45 : decode cX8_winter 45 = .ok (.invokespecial 235, 3) := by decide +kernel
theorem dX8_winter_48 : decode cX8_winter 48 = .ok (.putfield 55, 3) := by decide +kernel
theorem dX8_winter_51 : decode cX8_winter 51 = .ok (.aload_n 0, 1) := by decide +kernel
theorem dX8_winter_52 : decode cX8_winter 52 = .ok (.getfield 55, 3) := by decide +kernel
theorem dX8_winter_55 : decode cX8_winter 55 = .ok (.aload_n 0, 1) := by decide +kernel
theorem dX8_winter_56 : decode cX8_winter 56 = .ok (.getfield 48, 3) := by decide +kernel
theorem dX8_winter_59 : decode cX8_winter 59 = .ok (.iload_n 1, 1) := by decide +kernel
theorem dX8_winter_60 : decode cX8_winter 60 = .ok (.iconst 1, 1) := by decide +kernel
theorem dX8_winter_61 : decode cX8_winter 61 = .ok (.isub, 1) := by decide +kernel
theorem dX8_winter_62 : decode cX8_winter 62 = .ok (.invokevirtual 236, 3) := by decide +kernel
theorem dX8_winter_65 : decode cX8_winter 65 = .ok (.aload_n 0, 1) := by decide +kernel
theorem dX8_winter_66 : decode cX8_winter 66 = .ok (.getfield 12, 3) := by decide +kernel
theorem dX8_winter_69 : decode cX8_winter 69 = .ok (.invokevirtual 239, 3) := by decide +kernel
theorem dX8_winter_72 : decode cX8_winter 72 = .ok (.istore_n 3, 1) := by decide +kernel
theorem dX8_winter_73 : decode cX8_winter 73 = .ok (.iload_n 2, 1) := by decide +kernel
theorem dX8_winter_74 : decode cX8_winter 74 = .ok (.iconst (-1), 1) := by decide +kernel
theorem dX8_winter_75 : decode cX8_winter 75 = .ok (.if_icmp .ne 17, 3) := by decide +kernel
theorem dX8_winter_78 : decode cX8_winter 78 = .ok (.aload_n 0, 1) := by decide +kernel
theorem dX8_winter_79 : decode cX8_winter 79 = .ok (.getfield 55, 3) := by decide +kernel
theorem dX8_winter_82 : decode cX8_winter 82 = .ok (.aload_n 0, 1) := by decide +kernel
theorem dX8_winter_83 : decode cX8_winter 83 = .ok (.getfield 48, 3) := by decide +kernel
theorem dX8_winter_86 : decode cX8_winter 86 = .ok (.iload_n 1, 1) := by decide +kernel
theorem dX8_winter_87 : decode cX8_winter 87 = .ok (.iload_n 3, 1) := by decide +kernel
theorem dX8_winter_88 : decode cX8_winter 88 = .ok (.invokevirtual 242, 3) := by decide +kernel
theorem dX8_winter_91 : decode cX8_winter 91 = .ok (.ireturn, 1) := by decide +kernel
theorem dX8_winter_92 : decode cX8_winter 92 = .ok (.iconst 0, 1) := by decide +kernel
theorem dX8_winter_93 : decode cX8_winter 93 = .ok (.istore 4, 2) := by decide +kernel
theorem dX8_winter_95 : decode cX8_winter 95 = .ok (.iconst 0, 1) := by decide +kernel
theorem dX8_winter_96 : decode cX8_winter 96 = .ok (.istore 5, 2) := by decide +kernel
theorem dX8_winter_98 : decode cX8_winter 98 = .ok (.iload 5, 2) := by decide +kernel
theorem dX8_winter_100 : decode cX8_winter 100 = .ok (.iload_n 2, 1) := by decide +kernel
theorem dX8_winter_101 : decode cX8_winter 101 = .ok (.if_icmp .gt 34, 3) := by decide +kernel
theorem dX8_winter_104 : decode cX8_winter 104 = .ok (.iload_n 3, 1) := by decide +kernel
theorem dX8_winter_105 : decode cX8_winter 105 = .ok (.iload 4, 2) := by decide +kernel
theorem dX8_winter_107 : decode cX8_winter 107 = .ok (.iconst (-1), 1) := by decide +kernel
theorem dX8_winter_108 : decode cX8_winter 108 = .ok (.ixor, 1) := by decide +kernel
theorem dX8_winter_109 : decode cX8_winter 109 = .ok (.iand, 1) := by decide +kernel
theorem dX8_winter_110 : decode cX8_winter 110 = .ok (.istore_n 3, 1) := by decide +kernel
theorem dX8_winter_111 : decode cX8_winter 111 = .ok (.aload_n 0, 1) := by decide +kernel
theorem dX8_winter_112 : decode cX8_winter 112 = .ok (.getfield 55, 3) := by decide +kernel
theorem dX8_winter_115 : decode cX8_winter 115 = .ok (.aload_n 0, 1) := by decide +kernel
theorem dX8_winter_116 : decode cX8_winter 116 = .ok (.getfield 48, 3) := by decide +kernel
theorem dX8_winter_119 : decode cX8_winter 119 = .ok (.iload_n 1, 1) := by decide +kernel
theorem dX8_winter_120 : decode cX8_winter 120 = .ok (.iload 5, 2) := by decide +kernel
theorem dX8_winter_122 : decode cX8_winter 122 = .ok (.isub, 1) := by decide +kernel
theorem dX8_winter_123 : decode cX8_winter 123 = .ok (.iload_n 3, 1) := by decide +kernel
theorem dX8_winter_124 : decode cX8_winter 124 = .ok (.invokevirtual 246, 3) := by decide +kernel
theorem dX8_winter_127 : decode cX8_winter 127 = .ok (.istore 4, 2) := by decide +kernel
theorem dX8_winter_129 : decode cX8_winter 129 = .ok (.iinc 5 1, 3) := by decide +kernel
theorem dX8_winter_132 : decode cX8_winter 132 = .ok (.goto (-34), 3) := by decide +kernel
theorem dX8_winter_135 : decode cX8_winter 135 = .ok (.iload 4, 2) := by decide +kernel
theorem dX8_winter_137 : decode cX8_winter 137 = .ok (.ireturn, 1) := by decide +kernel
theorem dX8_learn_0 : decode cX8_learn 0 = .ok (.aload_n 0, 1) := by decide +kernel
theorem dX8_learn_1 : decode cX8_learn 1 = .ok (.getfield 12, 3) := by decide +kernel
theorem dX8_learn_4 : decode cX8_learn 4 = .ok (.iload_n 1, 1) := by decide +kernel
theorem dX8_learn_5 : decode cX8_learn 5 = .ok (.invokevirtual 134, 3) := by decide +kernel
theorem dX8_learn_8 : decode cX8_learn 8 = .ok (.ifCond .eq 12, 3) := by decide +kernel
theorem dX8_learn_11 : decode cX8_learn 11 = .ok (.iload_n 2, 1) := by decide +kernel
theorem dX8_learn_12 : decode cX8_learn 12 = .ok (.ifCond .lt 8, 3) := by decide +kernel
theorem dX8_learn_15 : decode cX8_learn 15 = .ok (.iload_n 2, 1) := by decide +kernel
theorem dX8_learn_16 : decode cX8_learn 16 = .ok (.iconst 1, 1) := by decide +kernel
theorem dX8_learn_17 : decode cX8_learn 17 = .ok (.if_icmp .le 5, 3) := by decide +kernel
theorem dX8_learn_20 : decode cX8_learn 20 = .ok (.iconst (-1), 1) := by decide +kernel
theorem dX8_learn_21 : decode cX8_learn 21 = .ok (.ireturn, 1) := by decide +kernel
theorem dX8_learn_22 : decode cX8_learn 22 = .ok (.iconst (-1), 1) := by decide +kernel
theorem dX8_learn_23 : decode cX8_learn 23 = .ok (.istore_n 3, 1) := by decide +kernel
theorem dX8_learn_24 : decode cX8_learn 24 = .ok (.iconst (-1), 1) := by decide +kernel
theorem dX8_learn_25 : decode cX8_learn 25 = .ok (.istore 4, 2) := by decide +kernel
theorem dX8_learn_27 : decode cX8_learn 27 = .ok (.iconst 0, 1) := by decide +kernel
theorem dX8_learn_28 : decode cX8_learn 28 = .ok (.istore 5, 2) := by decide +kernel
theorem dX8_learn_30 : decode cX8_learn 30 = .ok (.iload 5, 2) := by decide +kernel
theorem dX8_learn_32 : decode cX8_learn 32 = .ok (.aload_n 0, 1) := by decide +kernel
theorem dX8_learn_33 : decode cX8_learn 33 = .ok (.getfield 12, 3) := by decide +kernel
theorem dX8_learn_36 : decode cX8_learn 36 = .ok (.getfield 93, 3) := by decide +kernel
theorem dX8_learn_39 : decode cX8_learn 39 = .ok (.if_icmp .ge 49, 3) := by decide +kernel
theorem dX8_learn_42 : decode cX8_learn 42 = .ok (.aload_n 0, 1) := by decide +kernel
theorem dX8_learn_43 : decode cX8_learn 43 = .ok (.getfield 12, 3) := by decide +kernel
theorem dX8_learn_46 : decode cX8_learn 46 = .ok (.getfield 249, 3) := by decide +kernel
theorem dX8_learn_49 : decode cX8_learn 49 = .ok (.iload 5, 2) := by decide +kernel
theorem dX8_learn_51 : decode cX8_learn 51 = .ok (.iaload, 1) := by decide +kernel
theorem dX8_learn_52 : decode cX8_learn 52 = .ok (.iload_n 1, 1) := by decide +kernel
theorem dX8_learn_53 : decode cX8_learn 53 = .ok (.ishr, 1) := by decide +kernel
theorem dX8_learn_54 : decode cX8_learn 54 = .ok (.iconst 1, 1) := by decide +kernel
theorem dX8_learn_55 : decode cX8_learn 55 = .ok (.iand, 1) := by decide +kernel
theorem dX8_learn_56 : decode cX8_learn 56 = .ok (.ifCond .ne 26, 3) := by decide +kernel
theorem dX8_learn_59 : decode cX8_learn 59 = .ok (.aload_n 0, 1) := by decide +kernel
theorem dX8_learn_60 : decode cX8_learn 60 = .ok (.iload 5, 2) := by decide +kernel
theorem dX8_learn_62 : decode cX8_learn 62 = .ok (.iload_n 1, 1) := by decide +kernel
theorem dX8_learn_63 : decode cX8_learn 63 = .ok (.invokevirtual 252, 3) := by decide +kernel
theorem dX8_learn_66 : decode cX8_learn 66 = .ok (.istore 6, 2) := by decide +kernel
theorem dX8_learn_68 : decode cX8_learn 68 = .ok (.iload 6, 2) := by decide +kernel
theorem dX8_learn_70 : decode cX8_learn 70 = .ok (.iload 4, 2) := by decide +kernel
theorem dX8_learn_72 : decode cX8_learn 72 = .ok (.if_icmp .le 10, 3) := by decide +kernel
theorem dX8_learn_75 : decode cX8_learn 75 = .ok (.iload 6, 2) := by decide +kernel
theorem dX8_learn_77 : decode cX8_learn 77 = .ok (.istore 4, 2) := by decide +kernel
theorem dX8_learn_79 : decode cX8_learn 79 = .ok (.iload 5, 2) := by decide +kernel
theorem dX8_learn_81 : decode cX8_learn 81 = .ok (.istore_n 3, 1) := by decide +kernel
theorem dX8_learn_82 : decode cX8_learn 82 = .ok (.iinc 5 1, 3) := by decide +kernel
theorem dX8_learn_85 : decode cX8_learn 85 = .ok (.goto (-55), 3) := by decide +kernel
theorem dX8_learn_88 : decode cX8_learn 88 = .ok (.iload_n 2, 1) := by decide +kernel
theorem dX8_learn_89 : decode cX8_learn 89 = .ok (.ifCond .ne 7, 3) := by decide +kernel
theorem dX8_learn_92 : decode cX8_learn 92 = .ok (.iload_n 3, 1) := by decide +kernel
theorem dX8_learn_93 : decode cX8_learn 93 = .ok (.goto 5, 3) := by decide +kernel
theorem dX8_learn_96 : decode cX8_learn 96 = .ok (.iload 4, 2) := by decide +kernel
theorem dX8_learn_98 : decode cX8_learn 98 = .ok (.ireturn, 1) := by decide +kernel
theorem dX8_mention_0 : decode cX8_mention 0 = .ok (.iload_n 3, 1) := by decide +kernel
theorem dX8_mention_1 : decode cX8_mention 1 = .ok (.ifCond .lt 10, 3) := by decide +kernel
theorem dX8_mention_4 : decode cX8_mention 4 = .ok (.iload_n 3, 1) := by decide +kernel
theorem dX8_mention_5 : decode cX8_mention 5 = .ok (.sipush 500, 3) := by decide +kernel
theorem dX8_mention_8 : decode cX8_mention 8 = .ok (.if_icmp .le 9, 3) := by decide +kernel
theorem dX8_mention_11 : decode cX8_mention 11 = .ok (.aload_n 0, 1) := by decide +kernel
theorem dX8_mention_12 : decode cX8_mention 12 = .ok (.iconst (-1), 1) := by decide +kernel
theorem dX8_mention_13 : decode cX8_mention 13 = .ok (.invokevirtual 89, 3) := by decide +kernel
theorem dX8_mention_16 : decode cX8_mention 16 = .ok (.ireturn, 1) := by decide +kernel
theorem dX8_mention_17 : decode cX8_mention 17 = .ok (.aload_n 0, 1) := by decide +kernel
theorem dX8_mention_18 : decode cX8_mention 18 = .ok (.getfield 12, 3) := by decide +kernel
theorem dX8_mention_21 : decode cX8_mention 21 = .ok (.iload_n 1, 1) := by decide +kernel
theorem dX8_mention_22 : decode cX8_mention 22 = .ok (.invokevirtual 110, 3) := by decide +kernel
theorem dX8_mention_25 : decode cX8_mention 25 = .ok (.ifCond .eq 14, 3) := by decide +kernel
theorem dX8_mention_28 : decode cX8_mention 28 = .ok (.aload_n 0, 1) := by decide +kernel
theorem dX8_mention_29 : decode cX8_mention 29 = .ok (.getfield 12, 3) := by decide +kernel
theorem dX8_mention_32 : decode cX8_mention 32 = .ok (.iload_n 2, 1) := by decide +kernel
theorem dX8_mention_33 : decode cX8_mention 33 = .ok (.invokevirtual 110, 3) := by decide +kernel
theorem dX8_mention_36 : decode cX8_mention 36 = .ok (.ifCond .ne 10, 3) := by decide +kernel
theorem dX8_mention_39 : decode cX8_mention 39 = .ok (.aload_n 0, 1) := by decide +kernel
theorem dX8_mention_40 : decode cX8_mention 40 = .ok (.bipush (-2), 2) := by decide +kernel
theorem dX8_mention_42 : decode cX8_mention 42 = .ok (.invokevirtual 89, 3) := by decide +kernel
theorem dX8_mention_45 : decode cX8_mention 45 = .ok (.ireturn, 1) := by decide +kernel
theorem dX8_mention_46 : decode cX8_mention 46 = .ok (.iload_n 1, 1) := by decide +kernel
theorem dX8_mention_47 : decode cX8_mention 47 = .ok (.iload_n 2, 1) := by decide +kernel
theorem dX8_mention_48 : decode cX8_mention 48 = .ok (.if_icmp .ne 10, 3) := by decide +kernel
theorem dX8_mention_51 : decode cX8_mention 51 = .ok (.aload_n 0, 1) := by decide +kernel
theorem dX8_mention_52 : decode cX8_mention 52 = .ok (.bipush (-3), 2) := by decide +kernel
theorem dX8_mention_54 : decode cX8_mention 54 = .ok (.invokevirtual 89, 3) := by decide +kernel
theorem dX8_mention_57 : decode cX8_mention 57 = .ok (.ireturn, 1) := by decide +kernel
theorem dX8_mention_58 : decode cX8_mention 58 = .ok (.aload_n 0, 1) := by decide +kernel
theorem dX8_mention_59 : decode cX8_mention 59 = .ok (.getfield 12, 3) := by decide +kernel
theorem dX8_mention_62 : decode cX8_mention 62 = .ok (.getfield 255, 3) := by decide +kernel
theorem dX8_mention_65 : decode cX8_mention 65 = .ok (.invokevirtual 258, 3) := by decide +kernel
theorem dX8_mention_68 : decode cX8_mention 68 = .ok (.ifCond .eq 10, 3) := by decide +kernel
theorem dX8_mention_71 : decode cX8_mention 71 = .ok (.aload_n 0, 1) := by decide +kernel
theorem dX8_mention_72 : decode cX8_mention 72 = .ok (.bipush (-5), 2) := by decide +kernel
theorem dX8_mention_74 : decode cX8_mention 74 = .ok (.invokevirtual 89, 3) := by decide +kernel
theorem dX8_mention_77 : decode cX8_mention 77 = .ok (.ireturn, 1) := by decide +kernel
theorem dX8_mention_78 : decode cX8_mention 78 = .ok (.aload_n 0, 1) := by decide +kernel
theorem dX8_mention_79 : decode cX8_mention 79 = .ok (.getfield 12, 3) := by decide +kernel
theorem dX8_mention_82 : decode cX8_mention 82 = .ok (.getfield 255, 3) := by decide +kernel
theorem dX8_mention_85 : decode cX8_mention 85 = .ok (.iload_n 1, 1) := by decide +kernel
theorem dX8_mention_86 : decode cX8_mention 86 = .ok (.iload_n 2, 1) := by decide +kernel
theorem dX8_mention_87 : decode cX8_mention 87 = .ok (.iload_n 3, 1) := by decide +kernel
theorem dX8_mention_88 : decode cX8_mention 88 = .ok (.invokevirtual 185, 3) := by decide +kernel
theorem dX8_mention_91 : decode cX8_mention 91 = .ok (.aload_n 0, 1) := by decide +kernel
theorem dX8_mention_92 : decode cX8_mention 92 = .ok (.aload_n 0, 1) := by decide +kernel
theorem dX8_mention_93 : decode cX8_mention 93 = .ok (.getfield 12, 3) := by decide +kernel
theorem dX8_mention_96 : decode cX8_mention 96 = .ok (.getfield 255, 3) := by decide +kernel
theorem dX8_mention_99 : decode cX8_mention 99 = .ok (.getfield 262, 3) := by decide +kernel
theorem dX8_mention_102 : decode cX8_mention 102 = .ok (.invokevirtual 103, 3) := by decide +kernel
theorem dX8_mention_105 : decode cX8_mention 105 = .ok (.ireturn, 1) := by decide +kernel
theorem dX8_forget_0 : decode cX8_forget 0 = .ok (.aload_n 0, 1) := by decide +kernel
theorem dX8_forget_1 : decode cX8_forget 1 = .ok (.getfield 12, 3) := by decide +kernel
theorem dX8_forget_4 : decode cX8_forget 4 = .ok (.getfield 255, 3) := by decide +kernel
theorem dX8_forget_7 : decode cX8_forget 7 = .ok (.invokevirtual 188, 3) := by decide +kernel
theorem dX8_forget_10 : decode cX8_forget 10 = .ok (.ireturn, 1) := by decide +kernel
theorem dX8_dated_0 : decode cX8_dated 0 = .ok (.aload_n 0, 1) := by decide +kernel
theorem dX8_dated_1 : decode cX8_dated 1 = .ok (.getfield 12, 3) := by decide +kernel
theorem dX8_dated_4 : decode cX8_dated 4 = .ok (.iload_n 1, 1) := by decide +kernel
theorem dX8_dated_5 : decode cX8_dated 5 = .ok (.invokevirtual 110, 3) := by decide +kernel
theorem dX8_dated_8 : decode cX8_dated 8 = .ok (.ifCond .eq 12, 3) := by decide +kernel
theorem dX8_dated_11 : decode cX8_dated 11 = .ok (.iload_n 2, 1) := by decide +kernel
theorem dX8_dated_12 : decode cX8_dated 12 = .ok (.ifCond .lt 8, 3) := by decide +kernel
theorem dX8_dated_15 : decode cX8_dated 15 = .ok (.iload_n 2, 1) := by decide +kernel
theorem dX8_dated_16 : decode cX8_dated 16 = .ok (.iconst 1, 1) := by decide +kernel
theorem dX8_dated_17 : decode cX8_dated 17 = .ok (.if_icmp .le 5, 3) := by decide +kernel
theorem dX8_dated_20 : decode cX8_dated 20 = .ok (.iconst (-1), 1) := by decide +kernel
theorem dX8_dated_21 : decode cX8_dated 21 = .ok (.ireturn, 1) := by decide +kernel
theorem dX8_dated_22 : decode cX8_dated 22 = .ok (.iconst 1, 1) := by decide +kernel
theorem dX8_dated_23 : decode cX8_dated 23 = .ok (.aload_n 0, 1) := by decide +kernel
theorem dX8_dated_24 : decode cX8_dated 24 = .ok (.getfield 12, 3) := by decide +kernel
theorem dX8_dated_27 : decode cX8_dated 27 = .ok (.getfield 255, 3) := by decide +kernel
theorem dX8_dated_30 : decode cX8_dated 30 = .ok (.getfield 262, 3) := by decide +kernel
theorem dX8_dated_33 : decode cX8_dated 33 = .ok (.ishl, 1) := by decide +kernel
theorem dX8_dated_34 : decode cX8_dated 34 = .ok (.iconst 1, 1) := by decide +kernel
theorem dX8_dated_35 : decode cX8_dated 35 = .ok (.isub, 1) := by decide +kernel
theorem dX8_dated_36 : decode cX8_dated 36 = .ok (.istore_n 3, 1) := by decide +kernel
theorem dX8_dated_37 : decode cX8_dated 37 = .ok (.aload_n 0, 1) := by decide +kernel
theorem dX8_dated_38 : decode cX8_dated 38 = .ok (.getfield 62, 3) := by decide +kernel
theorem dX8_dated_41 : decode cX8_dated 41 = .ok (.aload_n 0, 1) := by decide +kernel
theorem dX8_dated_42 : decode cX8_dated 42 = .ok (.getfield 12, 3) := by decide +kernel
theorem dX8_dated_45 : decode cX8_dated 45 = .ok (.iload_n 3, 1) := by decide +kernel
theorem dX8_dated_46 : decode cX8_dated 46 = .ok (.invokevirtual 265, 3) := by decide +kernel
theorem dX8_dated_49 : decode cX8_dated 49 = .ok (.ifCond .ne 5, 3) := by decide +kernel
theorem dX8_dated_52 : decode cX8_dated 52 = .ok (.iconst (-1), 1) := by decide +kernel
theorem dX8_dated_53 : decode cX8_dated 53 = .ok (.ireturn, 1) := by decide +kernel
theorem dX8_dated_54 : decode cX8_dated 54 = .ok (.iload_n 2, 1) := by decide +kernel
theorem dX8_dated_55 : decode cX8_dated 55 = .ok (.ifCond .ne 13, 3) := by decide +kernel
theorem dX8_dated_58 : decode cX8_dated 58 = .ok (.aload_n 0, 1) := by decide +kernel
theorem dX8_dated_59 : decode cX8_dated 59 = .ok (.getfield 62, 3) := by decide +kernel
theorem dX8_dated_62 : decode cX8_dated 62 = .ok (.getfield 269, 3) := by decide +kernel
theorem dX8_dated_65 : decode cX8_dated 65 = .ok (.iload_n 1, 1) := by decide +kernel
theorem dX8_dated_66 : decode cX8_dated 66 = .ok (.iaload, 1) := by decide +kernel
theorem dX8_dated_67 : decode cX8_dated 67 = .ok (.ireturn, 1) := by decide +kernel
theorem dX8_dated_68 : decode cX8_dated 68 = .ok (.aload_n 0, 1) := by decide +kernel
theorem dX8_dated_69 : decode cX8_dated 69 = .ok (.getfield 62, 3) := by decide +kernel
theorem dX8_dated_72 : decode cX8_dated 72 = .ok (.aload_n 0, 1) := by decide +kernel
theorem dX8_dated_73 : decode cX8_dated 73 = .ok (.getfield 12, 3) := by decide +kernel
theorem dX8_dated_76 : decode cX8_dated 76 = .ok (.invokevirtual 272, 3) := by decide +kernel
theorem dX8_dated_79 : decode cX8_dated 79 = .ok (.aload_n 0, 1) := by decide +kernel
theorem dX8_dated_80 : decode cX8_dated 80 = .ok (.getfield 62, 3) := by decide +kernel
theorem dX8_dated_83 : decode cX8_dated 83 = .ok (.getfield 275, 3) := by decide +kernel
theorem dX8_dated_86 : decode cX8_dated 86 = .ok (.iload_n 1, 1) := by decide +kernel
theorem dX8_dated_87 : decode cX8_dated 87 = .ok (.iaload, 1) := by decide +kernel
theorem dX8_dated_88 : decode cX8_dated 88 = .ok (.ireturn, 1) := by decide +kernel
theorem dX8_doubt_0 : decode cX8_doubt 0 = .ok (.iload_n 1, 1) := by decide +kernel
theorem dX8_doubt_1 : decode cX8_doubt 1 = .ok (.ifCond .lt 8, 3) := by decide +kernel
theorem dX8_doubt_4 : decode cX8_doubt 4 = .ok (.iload_n 1, 1) := by decide +kernel
theorem dX8_doubt_5 : decode cX8_doubt 5 = .ok (.iconst 2, 1) := by decide +kernel
theorem dX8_doubt_6 : decode cX8_doubt 6 = .ok (.if_icmp .le 5, 3) := by decide +kernel
theorem dX8_doubt_9 : decode cX8_doubt 9 = .ok (.iconst (-1), 1) := by decide +kernel
theorem dX8_doubt_10 : decode cX8_doubt 10 = .ok (.ireturn, 1) := by decide +kernel
theorem dX8_doubt_11 : decode cX8_doubt 11 = .ok (.aload_n 0, 1) := by decide +kernel
theorem dX8_doubt_12 : decode cX8_doubt 12 = .ok (.getfield 62, 3) := by decide +kernel
theorem dX8_doubt_15 : decode cX8_doubt 15 = .ok (.aload_n 0, 1) := by decide +kernel
theorem dX8_doubt_16 : decode cX8_doubt 16 = .ok (.getfield 12, 3) := by decide +kernel
theorem dX8_doubt_19 : decode cX8_doubt 19 = .ok (.invokevirtual 278, 3) := by decide +kernel
theorem dX8_doubt_22 : decode cX8_doubt 22 = .ok (.iload_n 1, 1) := by decide +kernel
theorem dX8_doubt_23 : decode cX8_doubt 23 = .ok (.ifCond .ne 14, 3) := by decide +kernel
theorem dX8_doubt_26 : decode cX8_doubt 26 = .ok (.aload_n 0, 1) := by decide +kernel
theorem dX8_doubt_27 : decode cX8_doubt 27 = .ok (.getfield 62, 3) := by decide +kernel
theorem dX8_doubt_30 : decode cX8_doubt 30 = .ok (.getfield 281, 3) := by decide +kernel
theorem dX8_doubt_33 : decode cX8_doubt 33 = .ok (.invokestatic 214, 3) := by decide +kernel
theorem dX8_doubt_36 : decode cX8_doubt 36 = .ok (.ireturn, 1) := by decide +kernel
theorem dX8_doubt_37 : decode cX8_doubt 37 = .ok (.iload_n 1, 1) := by decide +kernel
theorem dX8_doubt_38 : decode cX8_doubt 38 = .ok (.iconst 1, 1) := by decide +kernel
theorem dX8_doubt_39 : decode cX8_doubt 39 = .ok (.if_icmp .ne 13, 3) := by decide +kernel
theorem dX8_doubt_42 : decode cX8_doubt 42 = .ok (.aload_n 0, 1) := by decide +kernel
theorem dX8_doubt_43 : decode cX8_doubt 43 = .ok (.getfield 62, 3) := by decide +kernel
theorem dX8_doubt_46 : decode cX8_doubt 46 = .ok (.getfield 281, 3) := by decide +kernel
theorem dX8_doubt_49 : decode cX8_doubt 49 = .ok (.goto 10, 3) := by decide +kernel
theorem dX8_doubt_52 : decode cX8_doubt 52 = .ok (.aload_n 0, 1) := by decide +kernel
theorem dX8_doubt_53 : decode cX8_doubt 53 = .ok (.getfield 62, 3) := by decide +kernel
theorem dX8_doubt_56 : decode cX8_doubt 56 = .ok (.getfield 284, 3) := by decide +kernel
theorem dX8_doubt_59 : decode cX8_doubt 59 = .ok (.ireturn, 1) := by decide +kernel
theorem dX8_claim_0 : decode cX8_claim 0 = .ok (.iload_n 2, 1) := by decide +kernel
theorem dX8_claim_1 : decode cX8_claim 1 = .ok (.ifCond .lt 19, 3) := by decide +kernel
theorem dX8_claim_4 : decode cX8_claim 4 = .ok (.iload_n 2, 1) := by decide +kernel
theorem dX8_claim_5 : decode cX8_claim 5 = .ok (.sipush 2000, 3) := by decide +kernel
theorem dX8_claim_8 : decode cX8_claim 8 = .ok (.if_icmp .gt 12, 3) := by decide +kernel
theorem dX8_claim_11 : decode cX8_claim 11 = .ok (.iload_n 3, 1) := by decide +kernel
theorem dX8_claim_12 : decode cX8_claim 12 = .ok (.ifCond .lt 8, 3) := by decide +kernel
theorem dX8_claim_15 : decode cX8_claim 15 = .ok (.iload_n 3, 1) := by decide +kernel
theorem dX8_claim_16 : decode cX8_claim 16 = .ok (.iconst 4, 1) := by decide +kernel
theorem dX8_claim_17 : decode cX8_claim 17 = .ok (.if_icmp .lt 9, 3) := by decide +kernel
theorem dX8_claim_20 : decode cX8_claim 20 = .ok (.aload_n 0, 1) := by decide +kernel
theorem dX8_claim_21 : decode cX8_claim 21 = .ok (.iconst (-1), 1) := by decide +kernel
theorem dX8_claim_22 : decode cX8_claim 22 = .ok (.invokevirtual 89, 3) := by decide +kernel
theorem dX8_claim_25 : decode cX8_claim 25 = .ok (.ireturn, 1) := by decide +kernel
theorem dX8_claim_26 : decode cX8_claim 26 = .ok (.aload_n 0, 1) := by decide +kernel
theorem dX8_claim_27 : decode cX8_claim 27 = .ok (.getfield 12, 3) := by decide +kernel
theorem dX8_claim_30 : decode cX8_claim 30 = .ok (.iload_n 1, 1) := by decide +kernel
theorem dX8_claim_31 : decode cX8_claim 31 = .ok (.invokevirtual 110, 3) := by decide +kernel
theorem dX8_claim_34 : decode cX8_claim 34 = .ok (.ifCond .ne 10, 3) := by decide +kernel
theorem dX8_claim_37 : decode cX8_claim 37 = .ok (.aload_n 0, 1) := by decide +kernel
theorem dX8_claim_38 : decode cX8_claim 38 = .ok (.bipush (-2), 2) := by decide +kernel
theorem dX8_claim_40 : decode cX8_claim 40 = .ok (.invokevirtual 89, 3) := by decide +kernel
theorem dX8_claim_43 : decode cX8_claim 43 = .ok (.ireturn, 1) := by decide +kernel
theorem dX8_claim_44 : decode cX8_claim 44 = .ok (.aload_n 0, 1) := by decide +kernel
theorem dX8_claim_45 : decode cX8_claim 45 = .ok (.getfield 12, 3) := by decide +kernel
theorem dX8_claim_48 : decode cX8_claim 48 = .ok (.getfield 285, 3) := by decide +kernel
theorem dX8_claim_51 : decode cX8_claim 51 = .ok (.invokevirtual 258, 3) := by decide +kernel
theorem dX8_claim_54 : decode cX8_claim 54 = .ok (.ifCond .eq 10, 3) := by decide +kernel
theorem dX8_claim_57 : decode cX8_claim 57 = .ok (.aload_n 0, 1) := by decide +kernel
theorem dX8_claim_58 : decode cX8_claim 58 = .ok (.bipush (-5), 2) := by decide +kernel
theorem dX8_claim_60 : decode cX8_claim 60 = .ok (.invokevirtual 89, 3) := by decide +kernel
theorem dX8_claim_63 : decode cX8_claim 63 = .ok (.ireturn, 1) := by decide +kernel
theorem dX8_claim_64 : decode cX8_claim 64 = .ok (.aload_n 0, 1) := by decide +kernel
theorem dX8_claim_65 : decode cX8_claim 65 = .ok (.getfield 12, 3) := by decide +kernel
theorem dX8_claim_68 : decode cX8_claim 68 = .ok (.getfield 285, 3) := by decide +kernel
theorem dX8_claim_71 : decode cX8_claim 71 = .ok (.iload_n 1, 1) := by decide +kernel
theorem dX8_claim_72 : decode cX8_claim 72 = .ok (.iload_n 2, 1) := by decide +kernel
theorem dX8_claim_73 : decode cX8_claim 73 = .ok (.iload_n 3, 1) := by decide +kernel
theorem dX8_claim_74 : decode cX8_claim 74 = .ok (.invokevirtual 185, 3) := by decide +kernel
theorem dX8_claim_77 : decode cX8_claim 77 = .ok (.aload_n 0, 1) := by decide +kernel
theorem dX8_claim_78 : decode cX8_claim 78 = .ok (.aload_n 0, 1) := by decide +kernel
theorem dX8_claim_79 : decode cX8_claim 79 = .ok (.getfield 12, 3) := by decide +kernel
theorem dX8_claim_82 : decode cX8_claim 82 = .ok (.getfield 285, 3) := by decide +kernel
theorem dX8_claim_85 : decode cX8_claim 85 = .ok (.getfield 262, 3) := by decide +kernel
theorem dX8_claim_88 : decode cX8_claim 88 = .ok (.invokevirtual 103, 3) := by decide +kernel
theorem dX8_claim_91 : decode cX8_claim 91 = .ok (.ireturn, 1) := by decide +kernel
theorem dX8_clear_0 : decode cX8_clear 0 = .ok (.aload_n 0, 1) := by decide +kernel
theorem dX8_clear_1 : decode cX8_clear 1 = .ok (.getfield 12, 3) := by decide +kernel
theorem dX8_clear_4 : decode cX8_clear 4 = .ok (.getfield 285, 3) := by decide +kernel
theorem dX8_clear_7 : decode cX8_clear 7 = .ok (.invokevirtual 188, 3) := by decide +kernel
theorem dX8_clear_10 : decode cX8_clear 10 = .ok (.ireturn, 1) := by decide +kernel
theorem dX8_wrong_0 : decode cX8_wrong 0 = .ok (.aload_n 0, 1) := by decide +kernel
theorem dX8_wrong_1 : decode cX8_wrong 1 = .ok (.getfield 48, 3) := by decide +kernel
theorem dX8_wrong_4 : decode cX8_wrong 4 = .ok (.aload_n 0, 1) := by decide +kernel
theorem dX8_wrong_5 : decode cX8_wrong 5 = .ok (.getfield 12, 3) := by decide +kernel
theorem dX8_wrong_8 : decode cX8_wrong 8 = .ok (.invokevirtual 124, 3) := by decide +kernel
theorem dX8_wrong_11 : decode cX8_wrong 11 = .ok (.aload_n 0, 1) := by decide +kernel
theorem dX8_wrong_12 : decode cX8_wrong 12 = .ok (.getfield 48, 3) := by decide +kernel
theorem dX8_wrong_15 : decode cX8_wrong 15 = .ok (.aload_n 0, 1) := by decide +kernel
theorem dX8_wrong_16 : decode cX8_wrong 16 = .ok (.getfield 12, 3) := by decide +kernel
theorem dX8_wrong_19 : decode cX8_wrong 19 = .ok (.getfield 285, 3) := by decide +kernel
theorem dX8_wrong_22 : decode cX8_wrong 22 = .ok (.iconst (-1), 1) := by decide +kernel
theorem dX8_wrong_23 : decode cX8_wrong 23 = .ok (.invokevirtual 288, 3) := by decide +kernel
theorem dX8_wrong_26 : decode cX8_wrong 26 = .ok (.ireturn, 1) := by decide +kernel
theorem dX8_liars_0 : decode cX8_liars 0 = .ok (.aload_n 0, 1) := by decide +kernel
theorem dX8_liars_1 : decode cX8_liars 1 = .ok (.getfield 48, 3) := by decide +kernel
theorem dX8_liars_4 : decode cX8_liars 4 = .ok (.aload_n 0, 1) := by decide +kernel
theorem dX8_liars_5 : decode cX8_liars 5 = .ok (.getfield 12, 3) := by decide +kernel
theorem dX8_liars_8 : decode cX8_liars 8 = .ok (.invokevirtual 124, 3) := by decide +kernel
theorem dX8_liars_11 : decode cX8_liars 11 = .ok (.iconst 0, 1) := by decide +kernel
theorem dX8_liars_12 : decode cX8_liars 12 = .ok (.istore_n 1, 1) := by decide +kernel
theorem dX8_liars_13 : decode cX8_liars 13 = .ok (.iconst 0, 1) := by decide +kernel
theorem dX8_liars_14 : decode cX8_liars 14 = .ok (.istore_n 2, 1) := by decide +kernel
theorem dX8_liars_15 : decode cX8_liars 15 = .ok (.iload_n 2, 1) := by decide +kernel
theorem dX8_liars_16 : decode cX8_liars 16 = .ok (.aload_n 0, 1) := by decide +kernel
theorem dX8_liars_17 : decode cX8_liars 17 = .ok (.getfield 12, 3) := by decide +kernel
theorem dX8_liars_20 : decode cX8_liars 20 = .ok (.getfield 285, 3) := by decide +kernel
theorem dX8_liars_23 : decode cX8_liars 23 = .ok (.getfield 262, 3) := by decide +kernel
theorem dX8_liars_26 : decode cX8_liars 26 = .ok (.if_icmp .ge 34, 3) := by decide +kernel
theorem dX8_liars_29 : decode cX8_liars 29 = .ok (.aload_n 0, 1) := by decide +kernel
theorem dX8_liars_30 : decode cX8_liars 30 = .ok (.getfield 48, 3) := by decide +kernel
theorem dX8_liars_33 : decode cX8_liars 33 = .ok (.aload_n 0, 1) := by decide +kernel
theorem dX8_liars_34 : decode cX8_liars 34 = .ok (.getfield 12, 3) := by decide +kernel
theorem dX8_liars_37 : decode cX8_liars 37 = .ok (.getfield 285, 3) := by decide +kernel
theorem dX8_liars_40 : decode cX8_liars 40 = .ok (.iload_n 2, 1) := by decide +kernel
theorem dX8_liars_41 : decode cX8_liars 41 = .ok (.invokevirtual 288, 3) := by decide +kernel
theorem dX8_liars_44 : decode cX8_liars 44 = .ok (.iconst (-1), 1) := by decide +kernel
theorem dX8_liars_45 : decode cX8_liars 45 = .ok (.if_icmp .ne 9, 3) := by decide +kernel
theorem dX8_liars_48 : decode cX8_liars 48 = .ok (.iload_n 1, 1) := by decide +kernel
theorem dX8_liars_49 : decode cX8_liars 49 = .ok (.iconst 1, 1) := by decide +kernel
theorem dX8_liars_50 : decode cX8_liars 50 = .ok (.iload_n 2, 1) := by decide +kernel
theorem dX8_liars_51 : decode cX8_liars 51 = .ok (.ishl, 1) := by decide +kernel
theorem dX8_liars_52 : decode cX8_liars 52 = .ok (.ior, 1) := by decide +kernel
theorem dX8_liars_53 : decode cX8_liars 53 = .ok (.istore_n 1, 1) := by decide +kernel
theorem dX8_liars_54 : decode cX8_liars 54 = .ok (.iinc 2 1, 3) := by decide +kernel
theorem dX8_liars_57 : decode cX8_liars 57 = .ok (.goto (-42), 3) := by decide +kernel
theorem dX8_liars_60 : decode cX8_liars 60 = .ok (.iload_n 1, 1) := by decide +kernel
theorem dX8_liars_61 : decode cX8_liars 61 = .ok (.ireturn, 1) := by decide +kernel
theorem dX8_draw_0 : decode cX8_draw 0 = .ok (.iload_n 1, 1) := by decide +kernel
theorem dX8_draw_1 : decode cX8_draw 1 = .ok (.ifCond .lt 10, 3) := by decide +kernel
theorem dX8_draw_4 : decode cX8_draw 4 = .ok (.iload_n 1, 1) := by decide +kernel
theorem dX8_draw_5 : decode cX8_draw 5 = .ok (.ldc_w 292, 3) := by decide +kernel
theorem dX8_draw_8 : decode cX8_draw 8 = .ok (.if_icmp .le 9, 3) := by decide +kernel
theorem dX8_draw_11 : decode cX8_draw 11 = .ok (.aload_n 0, 1) := by decide +kernel
theorem dX8_draw_12 : decode cX8_draw 12 = .ok (.iconst (-1), 1) := by decide +kernel
theorem dX8_draw_13 : decode cX8_draw 13 = .ok (.invokevirtual 89, 3) := by decide +kernel
theorem dX8_draw_16 : decode cX8_draw 16 = .ok (.ireturn, 1) := by decide +kernel
theorem dX8_draw_17 : decode cX8_draw 17 = .ok (.aload_n 0, 1) := by decide +kernel
theorem dX8_draw_18 : decode cX8_draw 18 = .ok (.getfield 48, 3) := by decide +kernel
theorem dX8_draw_21 : decode cX8_draw 21 = .ok (.aload_n 0, 1) := by decide +kernel
theorem dX8_draw_22 : decode cX8_draw 22 = .ok (.getfield 12, 3) := by decide +kernel
theorem dX8_draw_25 : decode cX8_draw 25 = .ok (.invokevirtual 124, 3) := by decide +kernel
theorem dX8_draw_28 : decode cX8_draw 28 = .ok (.aload_n 0, 1) := by decide +kernel
theorem dX8_draw_29 : decode cX8_draw 29 = .ok (.getfield 73, 3) := by decide +kernel
theorem dX8_draw_32 : decode cX8_draw 32 = .ok (.invokevirtual 188, 3) := by decide +kernel
theorem dX8_draw_35 : decode cX8_draw 35 = .ok (.pop, 1) := by decide +kernel
theorem dX8_draw_36 : decode cX8_draw 36 = .ok (.aload_n 0, 1) := by decide +kernel
theorem dX8_draw_37 : decode cX8_draw 37 = .ok (.getfield 12, 3) := by decide +kernel
theorem dX8_draw_40 : decode cX8_draw 40 = .ok (.invokevirtual 194, 3) := by decide +kernel
theorem dX8_draw_43 : decode cX8_draw 43 = .ok (.istore_n 2, 1) := by decide +kernel
theorem dX8_draw_44 : decode cX8_draw 44 = .ok (.aload_n 0, 1) := by decide +kernel
theorem dX8_draw_45 : decode cX8_draw 45 = .ok (.getfield 12, 3) := by decide +kernel
theorem dX8_draw_48 : decode cX8_draw 48 = .ok (.invokevirtual 165, 3) := by decide +kernel
theorem dX8_draw_51 : decode cX8_draw 51 = .ok (.istore_n 3, 1) := by decide +kernel
theorem dX8_draw_52 : decode cX8_draw 52 = .ok (.aload_n 0, 1) := by decide +kernel
theorem dX8_draw_53 : decode cX8_draw 53 = .ok (.getfield 12, 3) := by decide +kernel
theorem dX8_draw_56 : decode cX8_draw 56 = .ok (.invokevirtual 173, 3) := by decide +kernel
theorem dX8_draw_59 : decode cX8_draw 59 = .ok (.istore 4, 2) := by decide +kernel
theorem dX8_draw_61 : decode cX8_draw 61 = .ok (.iload_n 1, 1) := by decide +kernel
theorem dX8_draw_62 : decode cX8_draw 62 = .ok (.istore 5, 2) := by decide +kernel
theorem dX8_draw_64 : decode cX8_draw 64 = .ok (.iconst 0, 1) := by decide +kernel
theorem dX8_draw_65 : decode cX8_draw 65 = .ok (.istore 6, 2) := by decide +kernel
theorem dX8_draw_67 : decode cX8_draw 67 = .ok (.iload 6, 2) := by decide +kernel
theorem dX8_draw_69 : decode cX8_draw 69 = .ok (.bipush 10, 2) := by decide +kernel
theorem dX8_draw_71 : decode cX8_draw 71 = .ok (.if_icmp .ge 108, 3) := by decide +kernel
theorem dX8_draw_74 : decode cX8_draw 74 = .ok (.aload_n 0, 1) := by decide +kernel
theorem dX8_draw_75 : decode cX8_draw 75 = .ok (.getfield 48, 3) := by decide +kernel
theorem dX8_draw_78 : decode cX8_draw 78 = .ok (.iload_n 2, 1) := by decide +kernel
theorem dX8_draw_79 : decode cX8_draw 79 = .ok (.iload_n 3, 1) := by decide +kernel
theorem dX8_draw_80 : decode cX8_draw 80 = .ok (.iload 4, 2) := by decide +kernel
theorem dX8_draw_82 : decode cX8_draw 82 = .ok (.aload_n 0, 1) := by decide +kernel
theorem dX8_draw_83 : decode cX8_draw 83 = .ok (.getfield 76, 3) := by decide +kernel
theorem dX8_draw_86 : decode cX8_draw 86 = .ok (.invokevirtual 293, 3) := by decide +kernel
theorem dX8_draw_89 : decode cX8_draw 89 = .ok (.istore 7, 2) := by decide +kernel
theorem dX8_draw_91 : decode cX8_draw 91 = .ok (.iload 7, 2) := by decide +kernel
theorem dX8_draw_93 : decode cX8_draw 93 = .ok (.ifCond .gt 6, 3) := by decide +kernel
theorem dX8_draw_96 : decode cX8_draw 96 = .ok (.goto 83, 3) := by decide +kernel
theorem dX8_draw_99 : decode cX8_draw 99 = .ok (.iload 5, 2) := by decide +kernel
theorem dX8_draw_101 : decode cX8_draw 101 = .ok (.i2l, 1) := by decide +kernel
theorem dX8_draw_102 : decode cX8_draw 102 = .ok (.ldc2_w 297, 3) := by decide +kernel
theorem dX8_draw_105 : decode cX8_draw 105 = .ok (.lmul, 1) := by decide +kernel
theorem dX8_draw_106 : decode cX8_draw 106 = .ok (.ldc2_w 299, 3) := by decide +kernel
theorem dX8_draw_109 : decode cX8_draw 109 = .ok (.ladd, 1) := by decide +kernel
theorem dX8_draw_110 : decode cX8_draw 110 = .ok (.ldc2_w 301, 3) := by decide +kernel
theorem dX8_draw_113 : decode cX8_draw 113 = .ok (.lrem, 1) := by decide +kernel
theorem dX8_draw_114 : decode cX8_draw 114 = .ok (.l2i, 1) := by decide +kernel
theorem dX8_draw_115 : decode cX8_draw 115 = .ok (.istore 5, 2) := by decide +kernel
theorem dX8_draw_117 : decode cX8_draw 117 = .ok (.aload_n 0, 1) := by decide +kernel
theorem dX8_draw_118 : decode cX8_draw 118 = .ok (.getfield 76, 3) := by decide +kernel
theorem dX8_draw_121 : decode cX8_draw 121 = .ok (.iload 5, 2) := by decide +kernel
theorem dX8_draw_123 : decode cX8_draw 123 = .ok (.iload 7, 2) := by decide +kernel
theorem dX8_draw_125 : decode cX8_draw 125 = .ok (.irem, 1) := by decide +kernel
theorem dX8_draw_126 : decode cX8_draw 126 = .ok (.iaload, 1) := by decide +kernel
theorem dX8_draw_127 : decode cX8_draw 127 = .ok (.istore 8, 2) := by decide +kernel
theorem dX8_draw_129 : decode cX8_draw 129 = .ok (.iload 8, 2) := by decide +kernel
theorem dX8_draw_131 : decode cX8_draw 131 = .ok (.iconst 4, 1) := by decide +kernel
theorem dX8_draw_132 : decode cX8_draw 132 = .ok (.idiv, 1) := by decide +kernel
theorem dX8_draw_133 : decode cX8_draw 133 = .ok (.istore 9, 2) := by decide +kernel
theorem dX8_draw_135 : decode cX8_draw 135 = .ok (.iload 8, 2) := by decide +kernel
theorem dX8_draw_137 : decode cX8_draw 137 = .ok (.iconst 4, 1) := by decide +kernel
theorem dX8_draw_138 : decode cX8_draw 138 = .ok (.irem, 1) := by decide +kernel
theorem dX8_draw_139 : decode cX8_draw 139 = .ok (.istore 4, 2) := by decide +kernel
theorem dX8_draw_141 : decode cX8_draw 141 = .ok (.aload_n 0, 1) := by decide +kernel
theorem dX8_draw_142 : decode cX8_draw 142 = .ok (.getfield 48, 3) := by decide +kernel
theorem dX8_draw_145 : decode cX8_draw 145 = .ok (.iload 9, 2) := by decide +kernel
theorem dX8_draw_147 : decode cX8_draw 147 = .ok (.iload_n 3, 1) := by decide +kernel
theorem dX8_draw_148 : decode cX8_draw 148 = .ok (.invokevirtual 169, 3) := by decide +kernel
theorem dX8_draw_151 : decode cX8_draw 151 = .ok (.istore_n 3, 1) := by decide +kernel
theorem dX8_draw_152 : decode cX8_draw 152 = .ok (.iload_n 2, 1) := by decide +kernel
theorem dX8_draw_153 : decode cX8_draw 153 = .ok (.iconst 1, 1) := by decide +kernel
theorem dX8_draw_154 : decode cX8_draw 154 = .ok (.iload 9, 2) := by decide +kernel
theorem dX8_draw_156 : decode cX8_draw 156 = .ok (.ishl, 1) := by decide +kernel
theorem dX8_draw_157 : decode cX8_draw 157 = .ok (.iconst (-1), 1) := by decide +kernel
theorem dX8_draw_158 : decode cX8_draw 158 = .ok (.ixor, 1) := by decide +kernel
theorem dX8_draw_159 : decode cX8_draw 159 = .ok (.iand, 1) := by decide +kernel
theorem dX8_draw_160 : decode cX8_draw 160 = .ok (.istore_n 2, 1) := by decide +kernel
theorem dX8_draw_161 : decode cX8_draw 161 = .ok (.aload_n 0, 1) := by decide +kernel
theorem dX8_draw_162 : decode cX8_draw 162 = .ok (.getfield 73, 3) := by decide +kernel
theorem dX8_draw_165 : decode cX8_draw 165 = .ok (.iload 9, 2) := by decide +kernel
theorem dX8_draw_167 : decode cX8_draw 167 = .ok (.iload_n 3, 1) := by decide +kernel
theorem dX8_draw_168 : decode cX8_draw 168 = .ok (.iload 4, 2) := by decide +kernel
theorem dX8_draw_170 : decode cX8_draw 170 = .ok (.invokevirtual 185, 3) := by decide +kernel
theorem dX8_draw_173 : decode cX8_draw 173 = .ok (.iinc 6 1, 3) := by decide +kernel
theorem dX8_draw_176 : decode cX8_draw 176 = .ok (.goto (-109), 3) := by decide +kernel
theorem dX8_draw_179 : decode cX8_draw 179 = .ok (.aload_n 0, 1) := by decide +kernel
theorem dX8_draw_180 : decode cX8_draw 180 = .ok (.aload_n 0, 1) := by decide +kernel
theorem dX8_draw_181 : decode cX8_draw 181 = .ok (.getfield 73, 3) := by decide +kernel
theorem dX8_draw_184 : decode cX8_draw 184 = .ok (.getfield 262, 3) := by decide +kernel
theorem dX8_draw_187 : decode cX8_draw 187 = .ok (.invokevirtual 103, 3) := by decide +kernel
theorem dX8_draw_190 : decode cX8_draw 190 = .ok (.ireturn, 1) := by decide +kernel
theorem dX8_drawn_0 : decode cX8_drawn 0 = .ok (.aload_n 0, 1) := by decide +kernel
theorem dX8_drawn_1 : decode cX8_drawn 1 = .ok (.getfield 73, 3) := by decide +kernel
theorem dX8_drawn_4 : decode cX8_drawn 4 = .ok (.iload_n 1, 1) := by decide +kernel
theorem dX8_drawn_5 : decode cX8_drawn 5 = .ok (.iload_n 2, 1) := by decide +kernel
theorem dX8_drawn_6 : decode cX8_drawn 6 = .ok (.invokevirtual 191, 3) := by decide +kernel
theorem dX8_drawn_9 : decode cX8_drawn 9 = .ok (.ireturn, 1) := by decide +kernel
theorem dX8_image_0 : decode cX8_image 0 = .ok (.iload_n 1, 1) := by decide +kernel
theorem dX8_image_1 : decode cX8_image 1 = .ok (.ifCond .lt 8, 3) := by decide +kernel
theorem dX8_image_4 : decode cX8_image 4 = .ok (.iload_n 1, 1) := by decide +kernel
theorem dX8_image_5 : decode cX8_image 5 = .ok (.iconst 2, 1) := by decide +kernel
theorem dX8_image_6 : decode cX8_image 6 = .ok (.if_icmp .lt 9, 3) := by decide +kernel
theorem dX8_image_9 : decode cX8_image 9 = .ok (.aload_n 0, 1) := by decide +kernel
theorem dX8_image_10 : decode cX8_image 10 = .ok (.iconst (-1), 1) := by decide +kernel
theorem dX8_image_11 : decode cX8_image 11 = .ok (.invokevirtual 89, 3) := by decide +kernel
theorem dX8_image_14 : decode cX8_image 14 = .ok (.ireturn, 1) := by decide +kernel
theorem dX8_image_15 : decode cX8_image 15 = .ok (.aload_n 0, 1) := by decide +kernel
theorem dX8_image_16 : decode cX8_image 16 = .ok (.getfield 16, 3) := by decide +kernel
theorem dX8_image_19 : decode cX8_image 19 = .ok (.iload_n 1, 1) := by decide +kernel
theorem dX8_image_20 : decode cX8_image 20 = .ok (.aaload, 1) := by decide +kernel
theorem dX8_image_21 : decode cX8_image 21 = .ok (.aload_n 0, 1) := by decide +kernel
theorem dX8_image_22 : decode cX8_image 22 = .ok (.getfield 12, 3) := by decide +kernel
theorem dX8_image_25 : decode cX8_image 25 = .ok (.invokevirtual 303, 3) := by decide +kernel
theorem dX8_image_28 : decode cX8_image 28 = .ok (.aload_n 0, 1) := by decide +kernel
theorem dX8_image_29 : decode cX8_image 29 = .ok (.getfield 20, 3) := by decide +kernel
theorem dX8_image_32 : decode cX8_image 32 = .ok (.iload_n 1, 1) := by decide +kernel
theorem dX8_image_33 : decode cX8_image 33 = .ok (.iconst 1, 1) := by decide +kernel
theorem dX8_image_34 : decode cX8_image 34 = .ok (.bastore, 1) := by decide +kernel
theorem dX8_image_35 : decode cX8_image 35 = .ok (.aload_n 0, 1) := by decide +kernel
theorem dX8_image_36 : decode cX8_image 36 = .ok (.iconst 0, 1) := by decide +kernel
theorem dX8_image_37 : decode cX8_image 37 = .ok (.invokevirtual 103, 3) := by decide +kernel
theorem dX8_image_40 : decode cX8_image 40 = .ok (.ireturn, 1) := by decide +kernel
theorem dX8_back_0 : decode cX8_back 0 = .ok (.iload_n 1, 1) := by decide +kernel
theorem dX8_back_1 : decode cX8_back 1 = .ok (.ifCond .lt 8, 3) := by decide +kernel
theorem dX8_back_4 : decode cX8_back 4 = .ok (.iload_n 1, 1) := by decide +kernel
theorem dX8_back_5 : decode cX8_back 5 = .ok (.iconst 2, 1) := by decide +kernel
theorem dX8_back_6 : decode cX8_back 6 = .ok (.if_icmp .lt 9, 3) := by decide +kernel
theorem dX8_back_9 : decode cX8_back 9 = .ok (.aload_n 0, 1) := by decide +kernel
theorem dX8_back_10 : decode cX8_back 10 = .ok (.iconst (-1), 1) := by decide +kernel
theorem dX8_back_11 : decode cX8_back 11 = .ok (.invokevirtual 89, 3) := by decide +kernel
theorem dX8_back_14 : decode cX8_back 14 = .ok (.ireturn, 1) := by decide +kernel
theorem dX8_back_15 : decode cX8_back 15 = .ok (.aload_n 0, 1) := by decide +kernel
theorem dX8_back_16 : decode cX8_back 16 = .ok (.getfield 20, 3) := by decide +kernel
theorem dX8_back_19 : decode cX8_back 19 = .ok (.iload_n 1, 1) := by decide +kernel
theorem dX8_back_20 : decode cX8_back 20 = .ok (.baload, 1) := by decide +kernel
theorem dX8_back_21 : decode cX8_back 21 = .ok (.ifCond .ne 10, 3) := by decide +kernel
theorem dX8_back_24 : decode cX8_back 24 = .ok (.aload_n 0, 1) := by decide +kernel
theorem dX8_back_25 : decode cX8_back 25 = .ok (.bipush (-2), 2) := by decide +kernel
theorem dX8_back_27 : decode cX8_back 27 = .ok (.invokevirtual 89, 3) := by decide +kernel
theorem dX8_back_30 : decode cX8_back 30 = .ok (.ireturn, 1) := by decide +kernel
theorem dX8_back_31 : decode cX8_back 31 = .ok (.aload_n 0, 1) := by decide +kernel
theorem dX8_back_32 : decode cX8_back 32 = .ok (.getfield 12, 3) := by decide +kernel
theorem dX8_back_35 : decode cX8_back 35 = .ok (.aload_n 0, 1) := by decide +kernel
theorem dX8_back_36 : decode cX8_back 36 = .ok (.getfield 16, 3) := by decide +kernel
theorem dX8_back_39 : decode cX8_back 39 = .ok (.iload_n 1, 1) := by decide +kernel
theorem dX8_back_40 : decode cX8_back 40 = .ok (.aaload, 1) := by decide +kernel
theorem dX8_back_41 : decode cX8_back 41 = .ok (.invokevirtual 303, 3) := by decide +kernel
theorem dX8_back_44 : decode cX8_back 44 = .ok (.aload_n 0, 1) := by decide +kernel
theorem dX8_back_45 : decode cX8_back 45 = .ok (.getfield 48, 3) := by decide +kernel
theorem dX8_back_48 : decode cX8_back 48 = .ok (.invokevirtual 100, 3) := by decide +kernel
theorem dX8_back_51 : decode cX8_back 51 = .ok (.aload_n 0, 1) := by decide +kernel
theorem dX8_back_52 : decode cX8_back 52 = .ok (.iconst 0, 1) := by decide +kernel
theorem dX8_back_53 : decode cX8_back 53 = .ok (.invokevirtual 103, 3) := by decide +kernel
theorem dX8_back_56 : decode cX8_back 56 = .ok (.ireturn, 1) := by decide +kernel
theorem dX8_count_0 : decode cX8_count 0 = .ok (.iload_n 1, 1) := by decide +kernel
theorem dX8_count_1 : decode cX8_count 1 = .ok (.tableswitch 203 0 14 #[75, 83, 91, 102, 113, 124, 129, 136, 143, 150, 157, 165, 173, 183, 193], 75) := by decide +kernel
theorem dX8_count_76 : decode cX8_count 76 = .ok (.aload_n 0, 1) := by decide +kernel
theorem dX8_count_77 : decode cX8_count 77 = .ok (.getfield 12, 3) := by decide +kernel
theorem dX8_count_80 : decode cX8_count 80 = .ok (.getfield 93, 3) := by decide +kernel
theorem dX8_count_83 : decode cX8_count 83 = .ok (.ireturn, 1) := by decide +kernel
theorem dX8_count_84 : decode cX8_count 84 = .ok (.aload_n 0, 1) := by decide +kernel
theorem dX8_count_85 : decode cX8_count 85 = .ok (.getfield 12, 3) := by decide +kernel
theorem dX8_count_88 : decode cX8_count 88 = .ok (.getfield 150, 3) := by decide +kernel
theorem dX8_count_91 : decode cX8_count 91 = .ok (.ireturn, 1) := by decide +kernel
theorem dX8_count_92 : decode cX8_count 92 = .ok (.aload_n 0, 1) := by decide +kernel
theorem dX8_count_93 : decode cX8_count 93 = .ok (.getfield 12, 3) := by decide +kernel
theorem dX8_count_96 : decode cX8_count 96 = .ok (.getfield 182, 3) := by decide +kernel
theorem dX8_count_99 : decode cX8_count 99 = .ok (.getfield 262, 3) := by decide +kernel
theorem dX8_count_102 : decode cX8_count 102 = .ok (.ireturn, 1) := by decide +kernel
theorem dX8_count_103 : decode cX8_count 103 = .ok (.aload_n 0, 1) := by decide +kernel
theorem dX8_count_104 : decode cX8_count 104 = .ok (.getfield 12, 3) := by decide +kernel
theorem dX8_count_107 : decode cX8_count 107 = .ok (.getfield 255, 3) := by decide +kernel
theorem dX8_count_110 : decode cX8_count 110 = .ok (.getfield 262, 3) := by decide +kernel
theorem dX8_count_113 : decode cX8_count 113 = .ok (.ireturn, 1) := by decide +kernel
theorem dX8_count_114 : decode cX8_count 114 = .ok (.aload_n 0, 1) := by decide +kernel
theorem dX8_count_115 : decode cX8_count 115 = .ok (.getfield 12, 3) := by decide +kernel
theorem dX8_count_118 : decode cX8_count 118 = .ok (.getfield 285, 3) := by decide +kernel
theorem dX8_count_121 : decode cX8_count 121 = .ok (.getfield 262, 3) := by decide +kernel
theorem dX8_count_124 : decode cX8_count 124 = .ok (.ireturn, 1) := by decide +kernel
theorem dX8_count_125 : decode cX8_count 125 = .ok (.aload_n 0, 1) := by decide +kernel
theorem dX8_count_126 : decode cX8_count 126 = .ok (.getfield 28, 3) := by decide +kernel
theorem dX8_count_129 : decode cX8_count 129 = .ok (.ireturn, 1) := by decide +kernel
theorem dX8_count_130 : decode cX8_count 130 = .ok (.aload_n 0, 1) := by decide +kernel
theorem dX8_count_131 : decode cX8_count 131 = .ok (.getfield 79, 3) := by decide +kernel
theorem dX8_count_134 : decode cX8_count 134 = .ok (.iconst 1, 1) := by decide +kernel
theorem dX8_count_135 : decode cX8_count 135 = .ok (.iaload, 1) := by decide +kernel
theorem dX8_count_136 : decode cX8_count 136 = .ok (.ireturn, 1) := by decide +kernel
theorem dX8_count_137 : decode cX8_count 137 = .ok (.aload_n 0, 1) := by decide +kernel
theorem dX8_count_138 : decode cX8_count 138 = .ok (.getfield 79, 3) := by decide +kernel
theorem dX8_count_141 : decode cX8_count 141 = .ok (.iconst 2, 1) := by decide +kernel
theorem dX8_count_142 : decode cX8_count 142 = .ok (.iaload, 1) := by decide +kernel
theorem dX8_count_143 : decode cX8_count 143 = .ok (.ireturn, 1) := by decide +kernel
theorem dX8_count_144 : decode cX8_count 144 = .ok (.aload_n 0, 1) := by decide +kernel
theorem dX8_count_145 : decode cX8_count 145 = .ok (.getfield 79, 3) := by decide +kernel
theorem dX8_count_148 : decode cX8_count 148 = .ok (.iconst 3, 1) := by decide +kernel
theorem dX8_count_149 : decode cX8_count 149 = .ok (.iaload, 1) := by decide +kernel
theorem dX8_count_150 : decode cX8_count 150 = .ok (.ireturn, 1) := by decide +kernel
theorem dX8_count_151 : decode cX8_count 151 = .ok (.aload_n 0, 1) := by decide +kernel
theorem dX8_count_152 : decode cX8_count 152 = .ok (.getfield 79, 3) := by decide +kernel
theorem dX8_count_155 : decode cX8_count 155 = .ok (.iconst 5, 1) := by decide +kernel
theorem dX8_count_156 : decode cX8_count 156 = .ok (.iaload, 1) := by decide +kernel
theorem dX8_count_157 : decode cX8_count 157 = .ok (.ireturn, 1) := by decide +kernel
theorem dX8_count_158 : decode cX8_count 158 = .ok (.aload_n 0, 1) := by decide +kernel
theorem dX8_count_159 : decode cX8_count 159 = .ok (.getfield 79, 3) := by decide +kernel
theorem dX8_count_162 : decode cX8_count 162 = .ok (.bipush 6, 2) := by decide +kernel
theorem dX8_count_164 : decode cX8_count 164 = .ok (.iaload, 1) := by decide +kernel
theorem dX8_count_165 : decode cX8_count 165 = .ok (.ireturn, 1) := by decide +kernel
theorem dX8_count_166 : decode cX8_count 166 = .ok (.aload_n 0, 1) := by decide +kernel
theorem dX8_count_167 : decode cX8_count 167 = .ok (.getfield 12, 3) := by decide +kernel
theorem dX8_count_170 : decode cX8_count 170 = .ok (.getfield 162, 3) := by decide +kernel
theorem dX8_count_173 : decode cX8_count 173 = .ok (.ireturn, 1) := by decide +kernel
theorem dX8_count_174 : decode cX8_count 174 = .ok (.aload_n 0, 1) := by decide +kernel
theorem dX8_count_175 : decode cX8_count 175 = .ok (.getfield 12, 3) := by decide +kernel
theorem dX8_count_178 : decode cX8_count 178 = .ok (.getfield 140, 3) := by decide +kernel
theorem dX8_count_181 : decode cX8_count 181 = .ok (.iconst 0, 1) := by decide +kernel
theorem dX8_count_182 : decode cX8_count 182 = .ok (.iaload, 1) := by decide +kernel
theorem dX8_count_183 : decode cX8_count 183 = .ok (.ireturn, 1) := by decide +kernel
theorem dX8_count_184 : decode cX8_count 184 = .ok (.aload_n 0, 1) := by decide +kernel
theorem dX8_count_185 : decode cX8_count 185 = .ok (.getfield 12, 3) := by decide +kernel
theorem dX8_count_188 : decode cX8_count 188 = .ok (.getfield 140, 3) := by decide +kernel
theorem dX8_count_191 : decode cX8_count 191 = .ok (.iconst 1, 1) := by decide +kernel
theorem dX8_count_192 : decode cX8_count 192 = .ok (.iaload, 1) := by decide +kernel
theorem dX8_count_193 : decode cX8_count 193 = .ok (.ireturn, 1) := by decide +kernel
theorem dX8_count_194 : decode cX8_count 194 = .ok (.aload_n 0, 1) := by decide +kernel
theorem dX8_count_195 : decode cX8_count 195 = .ok (.getfield 12, 3) := by decide +kernel
theorem dX8_count_198 : decode cX8_count 198 = .ok (.getfield 140, 3) := by decide +kernel
theorem dX8_count_201 : decode cX8_count 201 = .ok (.iconst 2, 1) := by decide +kernel
theorem dX8_count_202 : decode cX8_count 202 = .ok (.iaload, 1) := by decide +kernel
theorem dX8_count_203 : decode cX8_count 203 = .ok (.ireturn, 1) := by decide +kernel
theorem dX8_count_204 : decode cX8_count 204 = .ok (.iconst (-1), 1) := by decide +kernel
theorem dX8_count_205 : decode cX8_count 205 = .ok (.ireturn, 1) := by decide +kernel
theorem dX8_status_0 : decode cX8_status 0 = .ok (.aload_n 0, 1) := by decide +kernel
theorem dX8_status_1 : decode cX8_status 1 = .ok (.getfield 82, 3) := by decide +kernel
theorem dX8_status_4 : decode cX8_status 4 = .ok (.ireturn, 1) := by decide +kernel
theorem dX8_refuse_0 : decode cX8_refuse 0 = .ok (.aload_n 0, 1) := by decide +kernel
theorem dX8_refuse_1 : decode cX8_refuse 1 = .ok (.iload_n 1, 1) := by decide +kernel
theorem dX8_refuse_2 : decode cX8_refuse 2 = .ok (.putfield 82, 3) := by decide +kernel
theorem dX8_refuse_5 : decode cX8_refuse 5 = .ok (.iload_n 1, 1) := by decide +kernel
theorem dX8_refuse_6 : decode cX8_refuse 6 = .ok (.ifCond .ge 20, 3) := by decide +kernel
theorem dX8_refuse_9 : decode cX8_refuse 9 = .ok (.iload_n 1, 1) := by decide +kernel
theorem dX8_refuse_10 : decode cX8_refuse 10 = .ok (.bipush (-6), 2) := by decide +kernel
theorem dX8_refuse_12 : decode cX8_refuse 12 = .ok (.if_icmp .lt 14, 3) := by decide +kernel
theorem dX8_refuse_15 : decode cX8_refuse 15 = .ok (.aload_n 0, 1) := by decide +kernel
theorem dX8_refuse_16 : decode cX8_refuse 16 = .ok (.getfield 79, 3) := by decide +kernel
theorem dX8_refuse_19 : decode cX8_refuse 19 = .ok (.iload_n 1, 1) := by decide +kernel
theorem dX8_refuse_20 : decode cX8_refuse 20 = .ok (.ineg, 1) := by decide +kernel
theorem dX8_refuse_21 : decode cX8_refuse 21 = .ok (.dup2, 1) := by decide +kernel
theorem dX8_refuse_22 : decode cX8_refuse 22 = .ok (.iaload, 1) := by decide +kernel
theorem dX8_refuse_23 : decode cX8_refuse 23 = .ok (.iconst 1, 1) := by decide +kernel
theorem dX8_refuse_24 : decode cX8_refuse 24 = .ok (.iadd, 1) := by decide +kernel
theorem dX8_refuse_25 : decode cX8_refuse 25 = .ok (.iastore, 1) := by decide +kernel
theorem dX8_refuse_26 : decode cX8_refuse 26 = .ok (.iload_n 1, 1) := by decide +kernel
theorem dX8_refuse_27 : decode cX8_refuse 27 = .ok (.ireturn, 1) := by decide +kernel
theorem dX8_accept_0 : decode cX8_accept 0 = .ok (.aload_n 0, 1) := by decide +kernel
theorem dX8_accept_1 : decode cX8_accept 1 = .ok (.iconst 0, 1) := by decide +kernel
theorem dX8_accept_2 : decode cX8_accept 2 = .ok (.putfield 82, 3) := by decide +kernel
theorem dX8_accept_5 : decode cX8_accept 5 = .ok (.iload_n 1, 1) := by decide +kernel
theorem dX8_accept_6 : decode cX8_accept 6 = .ok (.ireturn, 1) := by decide +kernel
theorem dX8_lay_0 : decode cX8_lay 0 = .ok (.bipush 24, 2) := by decide +kernel
theorem dX8_lay_2 : decode cX8_lay 2 = .ok (.istore_n 2, 1) := by decide +kernel
theorem dX8_lay_3 : decode cX8_lay 3 = .ok (.iload_n 2, 1) := by decide +kernel
theorem dX8_lay_4 : decode cX8_lay 4 = .ok (.ifCond .lt 45, 3) := by decide +kernel
theorem dX8_lay_7 : decode cX8_lay 7 = .ok (.aload_n 0, 1) := by decide +kernel
theorem dX8_lay_8 : decode cX8_lay 8 = .ok (.getfield 28, 3) := by decide +kernel
theorem dX8_lay_11 : decode cX8_lay 11 = .ok (.sipush 400, 3) := by decide +kernel
theorem dX8_lay_14 : decode cX8_lay 14 = .ok (.if_icmp .ge 35, 3) := by decide +kernel
theorem dX8_lay_17 : decode cX8_lay 17 = .ok (.aload_n 0, 1) := by decide +kernel
theorem dX8_lay_18 : decode cX8_lay 18 = .ok (.getfield 24, 3) := by decide +kernel
theorem dX8_lay_21 : decode cX8_lay 21 = .ok (.aload_n 0, 1) := by decide +kernel
theorem dX8_lay_22 : decode cX8_lay 22 = .ok (.getfield 28, 3) := by decide +kernel
theorem dX8_lay_25 : decode cX8_lay 25 = .ok (.iload_n 1, 1) := by decide +kernel
theorem dX8_lay_26 : decode cX8_lay 26 = .ok (.iload_n 2, 1) := by decide +kernel
theorem dX8_lay_27 : decode cX8_lay 27 = .ok (.ishr, 1) := by decide +kernel
theorem dX8_lay_28 : decode cX8_lay 28 = .ok (.sipush 255, 3) := by decide +kernel
theorem dX8_lay_31 : decode cX8_lay 31 = .ok (.iand, 1) := by decide +kernel
theorem dX8_lay_32 : decode cX8_lay 32 = .ok (.iastore, 1) := by decide +kernel
theorem dX8_lay_33 : decode cX8_lay 33 = .ok (.aload_n 0, 1) := by decide +kernel
theorem dX8_lay_34 : decode cX8_lay 34 = .ok (.dup, 1) := by decide +kernel
theorem dX8_lay_35 : decode cX8_lay 35 = .ok (.getfield 28, 3) := by decide +kernel
theorem dX8_lay_38 : decode cX8_lay 38 = .ok (.iconst 1, 1) := by decide +kernel
theorem dX8_lay_39 : decode cX8_lay 39 = .ok (.iadd, 1) := by decide +kernel
theorem dX8_lay_40 : decode cX8_lay 40 = .ok (.putfield 28, 3) := by decide +kernel
theorem dX8_lay_43 : decode cX8_lay 43 = .ok (.iinc 2 (-8), 3) := by decide +kernel
theorem dX8_lay_46 : decode cX8_lay 46 = .ok (.goto (-43), 3) := by decide +kernel
theorem dX8_lay_49 : decode cX8_lay 49 = .ok (.return_, 1) := by decide +kernel
theorem dX8_comesFrom_0 : decode cX8_comesFrom 0 = .ok (.iload_n 1, 1) := by decide +kernel
theorem dX8_comesFrom_1 : decode cX8_comesFrom 1 = .ok (.ifCond .lt 26, 3) := by decide +kernel
theorem dX8_comesFrom_4 : decode cX8_comesFrom 4 = .ok (.iload_n 1, 1) := by decide +kernel
theorem dX8_comesFrom_5 : decode cX8_comesFrom 5 = .ok (.bipush 6, 2) := by decide +kernel
theorem dX8_comesFrom_7 : decode cX8_comesFrom 7 = .ok (.iadd, 1) := by decide +kernel
theorem dX8_comesFrom_8 : decode cX8_comesFrom 8 = .ok (.aload_n 0, 1) := by decide +kernel
theorem dX8_comesFrom_9 : decode cX8_comesFrom 9 = .ok (.getfield 28, 3) := by decide +kernel
theorem dX8_comesFrom_12 : decode cX8_comesFrom 12 = .ok (.if_icmp .gt 15, 3) := by decide +kernel
theorem dX8_comesFrom_15 : decode cX8_comesFrom 15 = .ok (.aload_n 0, 1) := by decide +kernel
theorem dX8_comesFrom_16 : decode cX8_comesFrom 16 = .ok (.getfield 12, 3) := by decide +kernel
theorem dX8_comesFrom_19 : decode cX8_comesFrom 19 = .ok (.getfield 93, 3) := by decide +kernel
theorem dX8_comesFrom_22 : decode cX8_comesFrom 22 = .ok (.bipush 10, 2) := by decide +kernel
theorem dX8_comesFrom_24 : decode cX8_comesFrom 24 = .ok (.if_icmp .lt 5, 3) := by decide +kernel
theorem dX8_comesFrom_27 : decode cX8_comesFrom 27 = .ok (.iconst 0, 1) := by decide +kernel
theorem dX8_comesFrom_28 : decode cX8_comesFrom 28 = .ok (.ireturn, 1) := by decide +kernel
theorem dX8_comesFrom_29 : decode cX8_comesFrom 29 = .ok (.aload_n 0, 1) := by decide +kernel
theorem dX8_comesFrom_30 : decode cX8_comesFrom 30 = .ok (.getfield 24, 3) := by decide +kernel
theorem dX8_comesFrom_33 : decode cX8_comesFrom 33 = .ok (.iload_n 1, 1) := by decide +kernel
theorem dX8_comesFrom_34 : decode cX8_comesFrom 34 = .ok (.iaload, 1) := by decide +kernel
theorem dX8_comesFrom_35 : decode cX8_comesFrom 35 = .ok (.sipush 256, 3) := by decide +kernel
theorem dX8_comesFrom_38 : decode cX8_comesFrom 38 = .ok (.imul, 1) := by decide +kernel
theorem dX8_comesFrom_39 : decode cX8_comesFrom 39 = .ok (.aload_n 0, 1) := by decide +kernel
theorem dX8_comesFrom_40 : decode cX8_comesFrom 40 = .ok (.getfield 24, 3) := by decide +kernel
theorem dX8_comesFrom_43 : decode cX8_comesFrom 43 = .ok (.iload_n 1, 1) := by decide +kernel
theorem dX8_comesFrom_44 : decode cX8_comesFrom 44 = .ok (.iconst 1, 1) := by decide +kernel
theorem dX8_comesFrom_45 : decode cX8_comesFrom 45 = .ok (.iadd, 1) := by decide +kernel
theorem dX8_comesFrom_46 : decode cX8_comesFrom 46 = .ok (.iaload, 1) := by decide +kernel
theorem dX8_comesFrom_47 : decode cX8_comesFrom 47 = .ok (.iadd, 1) := by decide +kernel
theorem dX8_comesFrom_48 : decode cX8_comesFrom 48 = .ok (.istore_n 2, 1) := by decide +kernel
theorem dX8_comesFrom_49 : decode cX8_comesFrom 49 = .ok (.aload_n 0, 1) := by decide +kernel
theorem dX8_comesFrom_50 : decode cX8_comesFrom 50 = .ok (.getfield 24, 3) := by decide +kernel
theorem dX8_comesFrom_53 : decode cX8_comesFrom 53 = .ok (.iload_n 1, 1) := by decide +kernel
theorem dX8_comesFrom_54 : decode cX8_comesFrom 54 = .ok (.iconst 2, 1) := by decide +kernel
theorem dX8_comesFrom_55 : decode cX8_comesFrom 55 = .ok (.iadd, 1) := by decide +kernel
theorem dX8_comesFrom_56 : decode cX8_comesFrom 56 = .ok (.iaload, 1) := by decide +kernel
theorem dX8_comesFrom_57 : decode cX8_comesFrom 57 = .ok (.sipush 256, 3) := by decide +kernel
theorem dX8_comesFrom_60 : decode cX8_comesFrom 60 = .ok (.imul, 1) := by decide +kernel
theorem dX8_comesFrom_61 : decode cX8_comesFrom 61 = .ok (.aload_n 0, 1) := by decide +kernel
theorem dX8_comesFrom_62 : decode cX8_comesFrom 62 = .ok (.getfield 24, 3) := by decide +kernel
theorem dX8_comesFrom_65 : decode cX8_comesFrom 65 = .ok (.iload_n 1, 1) := by decide +kernel
theorem dX8_comesFrom_66 : decode cX8_comesFrom 66 = .ok (.iconst 3, 1) := by decide +kernel
theorem dX8_comesFrom_67 : decode cX8_comesFrom 67 = .ok (.iadd, 1) := by decide +kernel
theorem dX8_comesFrom_68 : decode cX8_comesFrom 68 = .ok (.iaload, 1) := by decide +kernel
theorem dX8_comesFrom_69 : decode cX8_comesFrom 69 = .ok (.iadd, 1) := by decide +kernel
theorem dX8_comesFrom_70 : decode cX8_comesFrom 70 = .ok (.istore_n 3, 1) := by decide +kernel
theorem dX8_comesFrom_71 : decode cX8_comesFrom 71 = .ok (.aload_n 0, 1) := by decide +kernel
theorem dX8_comesFrom_72 : decode cX8_comesFrom 72 = .ok (.getfield 24, 3) := by decide +kernel
theorem dX8_comesFrom_75 : decode cX8_comesFrom 75 = .ok (.iload_n 1, 1) := by decide +kernel
theorem dX8_comesFrom_76 : decode cX8_comesFrom 76 = .ok (.iconst 4, 1) := by decide +kernel
theorem dX8_comesFrom_77 : decode cX8_comesFrom 77 = .ok (.iadd, 1) := by decide +kernel
theorem dX8_comesFrom_78 : decode cX8_comesFrom 78 = .ok (.iaload, 1) := by decide +kernel
theorem dX8_comesFrom_79 : decode cX8_comesFrom 79 = .ok (.istore 4, 2) := by decide +kernel
theorem dX8_comesFrom_81 : decode cX8_comesFrom 81 = .ok (.aload_n 0, 1) := by decide +kernel
theorem dX8_comesFrom_82 : decode cX8_comesFrom 82 = .ok (.getfield 24, 3) := by decide +kernel
theorem dX8_comesFrom_85 : decode cX8_comesFrom 85 = .ok (.iload_n 1, 1) := by decide +kernel
theorem dX8_comesFrom_86 : decode cX8_comesFrom 86 = .ok (.iconst 5, 1) := by decide +kernel
theorem dX8_comesFrom_87 : decode cX8_comesFrom 87 = .ok (.iadd, 1) := by decide +kernel
theorem dX8_comesFrom_88 : decode cX8_comesFrom 88 = .ok (.iaload, 1) := by decide +kernel
theorem dX8_comesFrom_89 : decode cX8_comesFrom 89 = .ok (.istore 5, 2) := by decide +kernel
theorem dX8_comesFrom_91 : decode cX8_comesFrom 91 = .ok (.iload_n 2, 1) := by decide +kernel
theorem dX8_comesFrom_92 : decode cX8_comesFrom 92 = .ok (.iload_n 3, 1) := by decide +kernel
theorem dX8_comesFrom_93 : decode cX8_comesFrom 93 = .ok (.iload 4, 2) := by decide +kernel
theorem dX8_comesFrom_95 : decode cX8_comesFrom 95 = .ok (.iload 5, 2) := by decide +kernel
theorem dX8_comesFrom_97 : decode cX8_comesFrom 97 = .ok (.invokestatic 85, 3) := by decide +kernel
theorem dX8_comesFrom_100 : decode cX8_comesFrom 100 = .ok (.ifCond .ne 5, 3) := by decide +kernel
theorem dX8_comesFrom_103 : decode cX8_comesFrom 103 = .ok (.iconst 0, 1) := by decide +kernel
theorem dX8_comesFrom_104 : decode cX8_comesFrom 104 = .ok (.ireturn, 1) := by decide +kernel
theorem dX8_comesFrom_105 : decode cX8_comesFrom 105 = .ok (.aload_n 0, 1) := by decide +kernel
theorem dX8_comesFrom_106 : decode cX8_comesFrom 106 = .ok (.getfield 12, 3) := by decide +kernel
theorem dX8_comesFrom_109 : decode cX8_comesFrom 109 = .ok (.iload_n 2, 1) := by decide +kernel
theorem dX8_comesFrom_110 : decode cX8_comesFrom 110 = .ok (.iload_n 3, 1) := by decide +kernel
theorem dX8_comesFrom_111 : decode cX8_comesFrom 111 = .ok (.iload 4, 2) := by decide +kernel
theorem dX8_comesFrom_113 : decode cX8_comesFrom 113 = .ok (.iload 5, 2) := by decide +kernel
theorem dX8_comesFrom_115 : decode cX8_comesFrom 115 = .ok (.invokevirtual 96, 3) := by decide +kernel
theorem dX8_comesFrom_118 : decode cX8_comesFrom 118 = .ok (.iconst 1, 1) := by decide +kernel
theorem dX8_comesFrom_119 : decode cX8_comesFrom 119 = .ok (.ireturn, 1) := by decide +kernel
theorem dX8_worthIfKnown_0 : decode cX8_worthIfKnown 0 = .ok (.aload_n 0, 1) := by decide +kernel
theorem dX8_worthIfKnown_1 : decode cX8_worthIfKnown 1 = .ok (.getfield 12, 3) := by decide +kernel
theorem dX8_worthIfKnown_4 : decode cX8_worthIfKnown 4 = .ok (.getfield 249, 3) := by decide +kernel
theorem dX8_worthIfKnown_7 : decode cX8_worthIfKnown 7 = .ok (.iload_n 1, 1) := by decide +kernel
theorem dX8_worthIfKnown_8 : decode cX8_worthIfKnown 8 = .ok (.iaload, 1) := by decide +kernel
theorem dX8_worthIfKnown_9 : decode cX8_worthIfKnown 9 = .ok (.istore_n 3, 1) := by decide +kernel
theorem dX8_worthIfKnown_10 : decode cX8_worthIfKnown 10 = .ok (.aload_n 0, 1) := by decide +kernel
theorem dX8_worthIfKnown_11 : decode cX8_worthIfKnown 11 = .ok (.getfield 12, 3) := by decide +kernel
theorem dX8_worthIfKnown_14 : decode cX8_worthIfKnown 14 = .ok (.getfield 249, 3) := by decide +kernel
theorem dX8_worthIfKnown_17 : decode cX8_worthIfKnown 17 = .ok (.iload_n 1, 1) := by decide +kernel
theorem dX8_worthIfKnown_18 : decode cX8_worthIfKnown 18 = .ok (.iload_n 3, 1) := by decide +kernel
theorem dX8_worthIfKnown_19 : decode cX8_worthIfKnown 19 = .ok (.iconst 1, 1) := by decide +kernel
theorem dX8_worthIfKnown_20 : decode cX8_worthIfKnown 20 = .ok (.iload_n 2, 1) := by decide +kernel
theorem dX8_worthIfKnown_21 : decode cX8_worthIfKnown 21 = .ok (.ishl, 1) := by decide +kernel
theorem dX8_worthIfKnown_22 : decode cX8_worthIfKnown 22 = .ok (.ior, 1) := by decide +kernel
theorem dX8_worthIfKnown_23 : decode cX8_worthIfKnown 23 = .ok (.iastore, 1) := by decide +kernel
theorem dX8_worthIfKnown_24 : decode cX8_worthIfKnown 24 = .ok (.aload_n 0, 1) := by decide +kernel
theorem dX8_worthIfKnown_25 : decode cX8_worthIfKnown 25 = .ok (.getfield 52, 3) := by decide +kernel
theorem dX8_worthIfKnown_28 : decode cX8_worthIfKnown 28 = .ok (.ifnonnull 14, 3) := by decide +kernel
theorem dX8_worthIfKnown_31 : decode cX8_worthIfKnown 31 = .ok (.aload_n 0, 1) := by decide +kernel
theorem dX8_worthIfKnown_32 : decode cX8_worthIfKnown 32 = .ok (.new 45, 3) := by decide +kernel
theorem dX8_worthIfKnown_35 : decode cX8_worthIfKnown 35 = .ok (.dup, 1) := by decide +kernel
theorem dX8_worthIfKnown_36 : decode cX8_worthIfKnown 36 = .ok (.invokespecial 47, 3) := by decide +kernel
theorem dX8_worthIfKnown_39 : decode cX8_worthIfKnown 39 = .ok (.putfield 52, 3) := by decide +kernel
theorem dX8_worthIfKnown_42 : decode cX8_worthIfKnown 42 = .ok (.aload_n 0, 1) := by decide +kernel
theorem dX8_worthIfKnown_43 : decode cX8_worthIfKnown 43 = .ok (.getfield 52, 3) := by decide +kernel
theorem dX8_worthIfKnown_46 : decode cX8_worthIfKnown 46 = .ok (.invokevirtual 100, 3) := by decide +kernel
theorem dX8_worthIfKnown_49 : decode cX8_worthIfKnown 49 = .ok (.aload_n 0, 1) := by decide +kernel
theorem dX8_worthIfKnown_50 : decode cX8_worthIfKnown 50 = .ok (.getfield 52, 3) := by decide +kernel
theorem dX8_worthIfKnown_53 : decode cX8_worthIfKnown 53 = .ok (.aload_n 0, 1) := by decide +kernel
theorem dX8_worthIfKnown_54 : decode cX8_worthIfKnown 54 = .ok (.getfield 12, 3) := by decide +kernel
theorem dX8_worthIfKnown_57 : decode cX8_worthIfKnown 57 = .ok (.invokevirtual 197, 3) := by decide +kernel
theorem dX8_worthIfKnown_60 : decode cX8_worthIfKnown 60 = .ok (.aload_n 0, 1) := by decide +kernel
theorem dX8_worthIfKnown_61 : decode cX8_worthIfKnown 61 = .ok (.getfield 52, 3) := by decide +kernel
theorem dX8_worthIfKnown_64 : decode cX8_worthIfKnown 64 = .ok (.aload_n 0, 1) := by decide +kernel
