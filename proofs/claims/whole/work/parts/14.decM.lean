theorem dM_init_0 : decode mM_init.2.1 0 = .ok (.aload_n 0, 1) := by decide +kernel
theorem dM_init_1 : decode mM_init.2.1 1 = .ok (.invokespecial 3, 3) := by decide +kernel
theorem dM_init_4 : decode mM_init.2.1 4 = .ok (.aload_n 0, 1) := by decide +kernel
theorem dM_init_5 : decode mM_init.2.1 5 = .ok (.sipush 1993, 3) := by decide +kernel
theorem dM_init_8 : decode mM_init.2.1 8 = .ok (.newarray .int, 2) := by decide +kernel
theorem dM_init_10 : decode mM_init.2.1 10 = .ok (.putfield 9, 3) := by decide +kernel
theorem dM_init_13 : decode mM_init.2.1 13 = .ok (.aload_n 0, 1) := by decide +kernel
theorem dM_init_14 : decode mM_init.2.1 14 = .ok (.sipush 1993, 3) := by decide +kernel
theorem dM_init_17 : decode mM_init.2.1 17 = .ok (.newarray .int, 2) := by decide +kernel
theorem dM_init_19 : decode mM_init.2.1 19 = .ok (.putfield 13, 3) := by decide +kernel
theorem dM_init_22 : decode mM_init.2.1 22 = .ok (.aload_n 0, 1) := by decide +kernel
theorem dM_init_23 : decode mM_init.2.1 23 = .ok (.bipush 6, 2) := by decide +kernel
theorem dM_init_25 : decode mM_init.2.1 25 = .ok (.newarray .int, 2) := by decide +kernel
theorem dM_init_27 : decode mM_init.2.1 27 = .ok (.putfield 16, 3) := by decide +kernel
theorem dM_init_30 : decode mM_init.2.1 30 = .ok (.aload_n 0, 1) := by decide +kernel
theorem dM_init_31 : decode mM_init.2.1 31 = .ok (.iconst 4, 1) := by decide +kernel
theorem dM_init_32 : decode mM_init.2.1 32 = .ok (.newarray .int, 2) := by decide +kernel
theorem dM_init_34 : decode mM_init.2.1 34 = .ok (.putfield 19, 3) := by decide +kernel
theorem dM_init_37 : decode mM_init.2.1 37 = .ok (.aload_n 0, 1) := by decide +kernel
theorem dM_init_38 : decode mM_init.2.1 38 = .ok (.iconst 4, 1) := by decide +kernel
theorem dM_init_39 : decode mM_init.2.1 39 = .ok (.newarray .int, 2) := by decide +kernel
theorem dM_init_41 : decode mM_init.2.1 41 = .ok (.putfield 22, 3) := by decide +kernel
theorem dM_init_44 : decode mM_init.2.1 44 = .ok (.aload_n 0, 1) := by decide +kernel
theorem dM_init_45 : decode mM_init.2.1 45 = .ok (.bipush 96, 2) := by decide +kernel
theorem dM_init_47 : decode mM_init.2.1 47 = .ok (.newarray .int, 2) := by decide +kernel
theorem dM_init_49 : decode mM_init.2.1 49 = .ok (.putfield 25, 3) := by decide +kernel
theorem dM_init_52 : decode mM_init.2.1 52 = .ok (.aload_n 0, 1) := by decide +kernel
theorem dM_init_53 : decode mM_init.2.1 53 = .ok (.bipush 40, 2) := by decide +kernel
theorem dM_init_55 : decode mM_init.2.1 55 = .ok (.newarray .int, 2) := by decide +kernel
theorem dM_init_57 : decode mM_init.2.1 57 = .ok (.putfield 28, 3) := by decide +kernel
theorem dM_init_60 : decode mM_init.2.1 60 = .ok (.aload_n 0, 1) := by decide +kernel
theorem dM_init_61 : decode mM_init.2.1 61 = .ok (.bipush 16, 2) := by decide +kernel
theorem dM_init_63 : decode mM_init.2.1 63 = .ok (.newarray .int, 2) := by decide +kernel
theorem dM_init_65 : decode mM_init.2.1 65 = .ok (.putfield 31, 3) := by decide +kernel
theorem dM_init_68 : decode mM_init.2.1 68 = .ok (.aload_n 0, 1) := by decide +kernel
theorem dM_init_69 : decode mM_init.2.1 69 = .ok (.bipush 16, 2) := by decide +kernel
theorem dM_init_71 : decode mM_init.2.1 71 = .ok (.newarray .int, 2) := by decide +kernel
theorem dM_init_73 : decode mM_init.2.1 73 = .ok (.putfield 34, 3) := by decide +kernel
theorem dM_init_76 : decode mM_init.2.1 76 = .ok (.aload_n 0, 1) := by decide +kernel
theorem dM_init_77 : decode mM_init.2.1 77 = .ok (.bipush 16, 2) := by decide +kernel
theorem dM_init_79 : decode mM_init.2.1 79 = .ok (.newarray .int, 2) := by decide +kernel
theorem dM_init_81 : decode mM_init.2.1 81 = .ok (.putfield 37, 3) := by decide +kernel
theorem dM_init_84 : decode mM_init.2.1 84 = .ok (.aload_n 0, 1) := by decide +kernel
theorem dM_init_85 : decode mM_init.2.1 85 = .ok (.bipush 16, 2) := by decide +kernel
theorem dM_init_87 : decode mM_init.2.1 87 = .ok (.newarray .int, 2) := by decide +kernel
theorem dM_init_89 : decode mM_init.2.1 89 = .ok (.putfield 40, 3) := by decide +kernel
theorem dM_init_92 : decode mM_init.2.1 92 = .ok (.aload_n 0, 1) := by decide +kernel
theorem dM_init_93 : decode mM_init.2.1 93 = .ok (.bipush 16, 2) := by decide +kernel
theorem dM_init_95 : decode mM_init.2.1 95 = .ok (.newarray .int, 2) := by decide +kernel
theorem dM_init_97 : decode mM_init.2.1 97 = .ok (.putfield 43, 3) := by decide +kernel
theorem dM_init_100 : decode mM_init.2.1 100 = .ok (.aload_n 0, 1) := by decide +kernel
theorem dM_init_101 : decode mM_init.2.1 101 = .ok (.iconst 4, 1) := by decide +kernel
theorem dM_init_102 : decode mM_init.2.1 102 = .ok (.newarray .int, 2) := by decide +kernel
theorem dM_init_104 : decode mM_init.2.1 104 = .ok (.putfield 46, 3) := by decide +kernel
theorem dM_init_107 : decode mM_init.2.1 107 = .ok (.aload_n 0, 1) := by decide +kernel
theorem dM_init_108 : decode mM_init.2.1 108 = .ok (.bipush 70, 2) := by decide +kernel
theorem dM_init_110 : decode mM_init.2.1 110 = .ok (.newarray .int, 2) := by decide +kernel
theorem dM_init_112 : decode mM_init.2.1 112 = .ok (.putfield 49, 3) := by decide +kernel
theorem dM_init_115 : decode mM_init.2.1 115 = .ok (.aload_n 0, 1) := by decide +kernel
theorem dM_init_116 : decode mM_init.2.1 116 = .ok (.bipush 70, 2) := by decide +kernel
theorem dM_init_118 : decode mM_init.2.1 118 = .ok (.newarray .int, 2) := by decide +kernel
theorem dM_init_120 : decode mM_init.2.1 120 = .ok (.putfield 52, 3) := by decide +kernel
theorem dM_init_123 : decode mM_init.2.1 123 = .ok (.aload_n 0, 1) := by decide +kernel
theorem dM_init_124 : decode mM_init.2.1 124 = .ok (.iconst 5, 1) := by decide +kernel
theorem dM_init_125 : decode mM_init.2.1 125 = .ok (.newarray .int, 2) := by decide +kernel
theorem dM_init_127 : decode mM_init.2.1 127 = .ok (.putfield 55, 3) := by decide +kernel
theorem dM_init_130 : decode mM_init.2.1 130 = .ok (.aload_n 0, 1) := by decide +kernel
theorem dM_init_131 : decode mM_init.2.1 131 = .ok (.iconst 5, 1) := by decide +kernel
theorem dM_init_132 : decode mM_init.2.1 132 = .ok (.newarray .int, 2) := by decide +kernel
theorem dM_init_134 : decode mM_init.2.1 134 = .ok (.putfield 58, 3) := by decide +kernel
theorem dM_init_137 : decode mM_init.2.1 137 = .ok (.aload_n 0, 1) := by decide +kernel
theorem dM_init_138 : decode mM_init.2.1 138 = .ok (.bipush 24, 2) := by decide +kernel
theorem dM_init_140 : decode mM_init.2.1 140 = .ok (.newarray .int, 2) := by decide +kernel
theorem dM_init_142 : decode mM_init.2.1 142 = .ok (.putfield 61, 3) := by decide +kernel
theorem dM_init_145 : decode mM_init.2.1 145 = .ok (.aload_n 0, 1) := by decide +kernel
theorem dM_init_146 : decode mM_init.2.1 146 = .ok (.getfield 9, 3) := by decide +kernel
theorem dM_init_149 : decode mM_init.2.1 149 = .ok (.iconst 1, 1) := by decide +kernel
theorem dM_init_150 : decode mM_init.2.1 150 = .ok (.bipush 31, 2) := by decide +kernel
theorem dM_init_152 : decode mM_init.2.1 152 = .ok (.iastore, 1) := by decide +kernel
theorem dM_init_153 : decode mM_init.2.1 153 = .ok (.aload_n 0, 1) := by decide +kernel
theorem dM_init_154 : decode mM_init.2.1 154 = .ok (.invokevirtual 64, 3) := by decide +kernel
theorem dM_init_157 : decode mM_init.2.1 157 = .ok (.return_, 1) := by decide +kernel
theorem dM_changed_0 : decode mM_changed.2.1 0 = .ok (.aload_n 0, 1) := by decide +kernel
theorem dM_changed_1 : decode mM_changed.2.1 1 = .ok (.iconst 0, 1) := by decide +kernel
theorem dM_changed_2 : decode mM_changed.2.1 2 = .ok (.putfield 135, 3) := by decide +kernel
theorem dM_changed_5 : decode mM_changed.2.1 5 = .ok (.iconst 0, 1) := by decide +kernel
theorem dM_changed_6 : decode mM_changed.2.1 6 = .ok (.istore_n 1, 1) := by decide +kernel
theorem dM_changed_7 : decode mM_changed.2.1 7 = .ok (.iload_n 1, 1) := by decide +kernel
theorem dM_changed_8 : decode mM_changed.2.1 8 = .ok (.bipush 16, 2) := by decide +kernel
theorem dM_changed_10 : decode mM_changed.2.1 10 = .ok (.if_icmp .ge 16, 3) := by decide +kernel
theorem dM_changed_13 : decode mM_changed.2.1 13 = .ok (.aload_n 0, 1) := by decide +kernel
theorem dM_changed_14 : decode mM_changed.2.1 14 = .ok (.getfield 43, 3) := by decide +kernel
theorem dM_changed_17 : decode mM_changed.2.1 17 = .ok (.iload_n 1, 1) := by decide +kernel
theorem dM_changed_18 : decode mM_changed.2.1 18 = .ok (.iconst (-1), 1) := by decide +kernel
theorem dM_changed_19 : decode mM_changed.2.1 19 = .ok (.iastore, 1) := by decide +kernel
theorem dM_changed_20 : decode mM_changed.2.1 20 = .ok (.iinc 1 1, 3) := by decide +kernel
theorem dM_changed_23 : decode mM_changed.2.1 23 = .ok (.goto (-16), 3) := by decide +kernel
theorem dM_changed_26 : decode mM_changed.2.1 26 = .ok (.return_, 1) := by decide +kernel
theorem dM_work_0 : decode mM_work.2.1 0 = .ok (.iload_n 1, 1) := by decide +kernel
theorem dM_work_1 : decode mM_work.2.1 1 = .ok (.i2l, 1) := by decide +kernel
theorem dM_work_2 : decode mM_work.2.1 2 = .ok (.lconst 0, 1) := by decide +kernel
theorem dM_work_3 : decode mM_work.2.1 3 = .ok (.ldc2_w 74, 3) := by decide +kernel
theorem dM_work_6 : decode mM_work.2.1 6 = .ok (.invokestatic 68, 3) := by decide +kernel
theorem dM_work_9 : decode mM_work.2.1 9 = .ok (.ifCond .eq 15, 3) := by decide +kernel
theorem dM_work_12 : decode mM_work.2.1 12 = .ok (.iload_n 2, 1) := by decide +kernel
theorem dM_work_13 : decode mM_work.2.1 13 = .ok (.i2l, 1) := by decide +kernel
theorem dM_work_14 : decode mM_work.2.1 14 = .ok (.lconst 1, 1) := by decide +kernel
theorem dM_work_15 : decode mM_work.2.1 15 = .ok (.ldc2_w 76, 3) := by decide +kernel
theorem dM_work_18 : decode mM_work.2.1 18 = .ok (.invokestatic 68, 3) := by decide +kernel
theorem dM_work_21 : decode mM_work.2.1 21 = .ok (.ifCond .ne 10, 3) := by decide +kernel
theorem dM_work_24 : decode mM_work.2.1 24 = .ok (.aload_n 0, 1) := by decide +kernel
theorem dM_work_25 : decode mM_work.2.1 25 = .ok (.ldc 78, 2) := by decide +kernel
theorem dM_work_27 : decode mM_work.2.1 27 = .ok (.invokevirtual 79, 3) := by decide +kernel
theorem dM_work_30 : decode mM_work.2.1 30 = .ok (.ireturn, 1) := by decide +kernel
theorem dM_work_31 : decode mM_work.2.1 31 = .ok (.aload_n 0, 1) := by decide +kernel
theorem dM_work_32 : decode mM_work.2.1 32 = .ok (.getfield 9, 3) := by decide +kernel
theorem dM_work_35 : decode mM_work.2.1 35 = .ok (.iconst 2, 1) := by decide +kernel
theorem dM_work_36 : decode mM_work.2.1 36 = .ok (.iaload, 1) := by decide +kernel
theorem dM_work_37 : decode mM_work.2.1 37 = .ok (.istore_n 3, 1) := by decide +kernel
theorem dM_work_38 : decode mM_work.2.1 38 = .ok (.iload_n 3, 1) := by decide +kernel
theorem dM_work_39 : decode mM_work.2.1 39 = .ok (.bipush 16, 2) := by decide +kernel
theorem dM_work_41 : decode mM_work.2.1 41 = .ok (.if_icmp .ne 10, 3) := by decide +kernel
theorem dM_work_44 : decode mM_work.2.1 44 = .ok (.aload_n 0, 1) := by decide +kernel
theorem dM_work_45 : decode mM_work.2.1 45 = .ok (.ldc 83, 2) := by decide +kernel
theorem dM_work_47 : decode mM_work.2.1 47 = .ok (.invokevirtual 79, 3) := by decide +kernel
theorem dM_work_50 : decode mM_work.2.1 50 = .ok (.ireturn, 1) := by decide +kernel
theorem dM_work_51 : decode mM_work.2.1 51 = .ok (.aload_n 0, 1) := by decide +kernel
theorem dM_work_52 : decode mM_work.2.1 52 = .ok (.getfield 9, 3) := by decide +kernel
theorem dM_work_55 : decode mM_work.2.1 55 = .ok (.bipush 10, 2) := by decide +kernel
theorem dM_work_57 : decode mM_work.2.1 57 = .ok (.iconst 3, 1) := by decide +kernel
theorem dM_work_58 : decode mM_work.2.1 58 = .ok (.iload_n 3, 1) := by decide +kernel
theorem dM_work_59 : decode mM_work.2.1 59 = .ok (.imul, 1) := by decide +kernel
theorem dM_work_60 : decode mM_work.2.1 60 = .ok (.iadd, 1) := by decide +kernel
theorem dM_work_61 : decode mM_work.2.1 61 = .ok (.iconst 0, 1) := by decide +kernel
theorem dM_work_62 : decode mM_work.2.1 62 = .ok (.iadd, 1) := by decide +kernel
theorem dM_work_63 : decode mM_work.2.1 63 = .ok (.iload_n 1, 1) := by decide +kernel
theorem dM_work_64 : decode mM_work.2.1 64 = .ok (.iastore, 1) := by decide +kernel
theorem dM_work_65 : decode mM_work.2.1 65 = .ok (.aload_n 0, 1) := by decide +kernel
theorem dM_work_66 : decode mM_work.2.1 66 = .ok (.getfield 9, 3) := by decide +kernel
theorem dM_work_69 : decode mM_work.2.1 69 = .ok (.bipush 10, 2) := by decide +kernel
theorem dM_work_71 : decode mM_work.2.1 71 = .ok (.iconst 3, 1) := by decide +kernel
theorem dM_work_72 : decode mM_work.2.1 72 = .ok (.iload_n 3, 1) := by decide +kernel
theorem dM_work_73 : decode mM_work.2.1 73 = .ok (.imul, 1) := by decide +kernel
theorem dM_work_74 : decode mM_work.2.1 74 = .ok (.iadd, 1) := by decide +kernel
theorem dM_work_75 : decode mM_work.2.1 75 = .ok (.iconst 1, 1) := by decide +kernel
theorem dM_work_76 : decode mM_work.2.1 76 = .ok (.iadd, 1) := by decide +kernel
theorem dM_work_77 : decode mM_work.2.1 77 = .ok (.iload_n 2, 1) := by decide +kernel
theorem dM_work_78 : decode mM_work.2.1 78 = .ok (.iastore, 1) := by decide +kernel
theorem dM_work_79 : decode mM_work.2.1 79 = .ok (.aload_n 0, 1) := by decide +kernel
theorem dM_work_80 : decode mM_work.2.1 80 = .ok (.getfield 9, 3) := by decide +kernel
theorem dM_work_83 : decode mM_work.2.1 83 = .ok (.bipush 10, 2) := by decide +kernel
theorem dM_work_85 : decode mM_work.2.1 85 = .ok (.iconst 3, 1) := by decide +kernel
theorem dM_work_86 : decode mM_work.2.1 86 = .ok (.iload_n 3, 1) := by decide +kernel
theorem dM_work_87 : decode mM_work.2.1 87 = .ok (.imul, 1) := by decide +kernel
theorem dM_work_88 : decode mM_work.2.1 88 = .ok (.iadd, 1) := by decide +kernel
theorem dM_work_89 : decode mM_work.2.1 89 = .ok (.iconst 2, 1) := by decide +kernel
theorem dM_work_90 : decode mM_work.2.1 90 = .ok (.iadd, 1) := by decide +kernel
theorem dM_work_91 : decode mM_work.2.1 91 = .ok (.iload_n 2, 1) := by decide +kernel
theorem dM_work_92 : decode mM_work.2.1 92 = .ok (.iastore, 1) := by decide +kernel
theorem dM_work_93 : decode mM_work.2.1 93 = .ok (.aload_n 0, 1) := by decide +kernel
theorem dM_work_94 : decode mM_work.2.1 94 = .ok (.getfield 9, 3) := by decide +kernel
theorem dM_work_97 : decode mM_work.2.1 97 = .ok (.iconst 2, 1) := by decide +kernel
theorem dM_work_98 : decode mM_work.2.1 98 = .ok (.dup2, 1) := by decide +kernel
theorem dM_work_99 : decode mM_work.2.1 99 = .ok (.iaload, 1) := by decide +kernel
theorem dM_work_100 : decode mM_work.2.1 100 = .ok (.iconst 1, 1) := by decide +kernel
theorem dM_work_101 : decode mM_work.2.1 101 = .ok (.iadd, 1) := by decide +kernel
theorem dM_work_102 : decode mM_work.2.1 102 = .ok (.iastore, 1) := by decide +kernel
theorem dM_work_103 : decode mM_work.2.1 103 = .ok (.aload_n 0, 1) := by decide +kernel
theorem dM_work_104 : decode mM_work.2.1 104 = .ok (.invokevirtual 64, 3) := by decide +kernel
theorem dM_work_107 : decode mM_work.2.1 107 = .ok (.iload_n 3, 1) := by decide +kernel
theorem dM_work_108 : decode mM_work.2.1 108 = .ok (.ireturn, 1) := by decide +kernel
theorem dM_within_0 : decode mM_within.2.1 0 = .ok (.lload_n 0, 1) := by decide +kernel
theorem dM_within_1 : decode mM_within.2.1 1 = .ok (.lload_n 2, 1) := by decide +kernel
theorem dM_within_2 : decode mM_within.2.1 2 = .ok (.lcmp, 1) := by decide +kernel
theorem dM_within_3 : decode mM_within.2.1 3 = .ok (.ifCond .lt 14, 3) := by decide +kernel
theorem dM_within_6 : decode mM_within.2.1 6 = .ok (.lload_n 0, 1) := by decide +kernel
theorem dM_within_7 : decode mM_within.2.1 7 = .ok (.lload 4, 2) := by decide +kernel
theorem dM_within_9 : decode mM_within.2.1 9 = .ok (.lcmp, 1) := by decide +kernel
theorem dM_within_10 : decode mM_within.2.1 10 = .ok (.ifCond .gt 7, 3) := by decide +kernel
theorem dM_within_13 : decode mM_within.2.1 13 = .ok (.iconst 1, 1) := by decide +kernel
theorem dM_within_14 : decode mM_within.2.1 14 = .ok (.goto 4, 3) := by decide +kernel
theorem dM_within_17 : decode mM_within.2.1 17 = .ok (.iconst 0, 1) := by decide +kernel
theorem dM_within_18 : decode mM_within.2.1 18 = .ok (.ireturn, 1) := by decide +kernel
theorem dM_finding_0 : decode mM_finding.2.1 0 = .ok (.aload_n 0, 1) := by decide +kernel
theorem dM_finding_1 : decode mM_finding.2.1 1 = .ok (.getfield 16, 3) := by decide +kernel
theorem dM_finding_4 : decode mM_finding.2.1 4 = .ok (.ldc 67, 2) := by decide +kernel
theorem dM_finding_6 : decode mM_finding.2.1 6 = .ok (.iload_n 1, 1) := by decide +kernel
theorem dM_finding_7 : decode mM_finding.2.1 7 = .ok (.isub, 1) := by decide +kernel
theorem dM_finding_8 : decode mM_finding.2.1 8 = .ok (.dup2, 1) := by decide +kernel
theorem dM_finding_9 : decode mM_finding.2.1 9 = .ok (.iaload, 1) := by decide +kernel
theorem dM_finding_10 : decode mM_finding.2.1 10 = .ok (.iconst 1, 1) := by decide +kernel
theorem dM_finding_11 : decode mM_finding.2.1 11 = .ok (.iadd, 1) := by decide +kernel
theorem dM_finding_12 : decode mM_finding.2.1 12 = .ok (.iastore, 1) := by decide +kernel
theorem dM_finding_13 : decode mM_finding.2.1 13 = .ok (.iload_n 1, 1) := by decide +kernel
theorem dM_finding_14 : decode mM_finding.2.1 14 = .ok (.ireturn, 1) := by decide +kernel
theorem dM_as_0 : decode mM_as.2.1 0 = .ok (.aload_n 0, 1) := by decide +kernel
theorem dM_as_1 : decode mM_as.2.1 1 = .ok (.iload_n 1, 1) := by decide +kernel
theorem dM_as_2 : decode mM_as.2.1 2 = .ok (.iconst 2, 1) := by decide +kernel
theorem dM_as_3 : decode mM_as.2.1 3 = .ok (.invokevirtual 84, 3) := by decide +kernel
theorem dM_as_6 : decode mM_as.2.1 6 = .ok (.ifCond .eq 15, 3) := by decide +kernel
theorem dM_as_9 : decode mM_as.2.1 9 = .ok (.iload_n 2, 1) := by decide +kernel
theorem dM_as_10 : decode mM_as.2.1 10 = .ok (.i2l, 1) := by decide +kernel
theorem dM_as_11 : decode mM_as.2.1 11 = .ok (.lconst 0, 1) := by decide +kernel
theorem dM_as_12 : decode mM_as.2.1 12 = .ok (.ldc2_w 74, 3) := by decide +kernel
theorem dM_as_15 : decode mM_as.2.1 15 = .ok (.invokestatic 68, 3) := by decide +kernel
theorem dM_as_18 : decode mM_as.2.1 18 = .ok (.ifCond .ne 10, 3) := by decide +kernel
theorem dM_as_21 : decode mM_as.2.1 21 = .ok (.aload_n 0, 1) := by decide +kernel
theorem dM_as_22 : decode mM_as.2.1 22 = .ok (.ldc 78, 2) := by decide +kernel
theorem dM_as_24 : decode mM_as.2.1 24 = .ok (.invokevirtual 79, 3) := by decide +kernel
theorem dM_as_27 : decode mM_as.2.1 27 = .ok (.ireturn, 1) := by decide +kernel
theorem dM_as_28 : decode mM_as.2.1 28 = .ok (.aload_n 0, 1) := by decide +kernel
theorem dM_as_29 : decode mM_as.2.1 29 = .ok (.iload_n 1, 1) := by decide +kernel
theorem dM_as_30 : decode mM_as.2.1 30 = .ok (.invokevirtual 88, 3) := by decide +kernel
theorem dM_as_33 : decode mM_as.2.1 33 = .ok (.istore_n 3, 1) := by decide +kernel
theorem dM_as_34 : decode mM_as.2.1 34 = .ok (.iload_n 3, 1) := by decide +kernel
theorem dM_as_35 : decode mM_as.2.1 35 = .ok (.ifCond .lt 16, 3) := by decide +kernel
theorem dM_as_38 : decode mM_as.2.1 38 = .ok (.iload_n 3, 1) := by decide +kernel
theorem dM_as_39 : decode mM_as.2.1 39 = .ok (.iload_n 2, 1) := by decide +kernel
theorem dM_as_40 : decode mM_as.2.1 40 = .ok (.if_icmp .eq 11, 3) := by decide +kernel
theorem dM_as_43 : decode mM_as.2.1 43 = .ok (.iload_n 3, 1) := by decide +kernel
theorem dM_as_44 : decode mM_as.2.1 44 = .ok (.invokestatic 91, 3) := by decide +kernel
theorem dM_as_47 : decode mM_as.2.1 47 = .ok (.istore_n 3, 1) := by decide +kernel
theorem dM_as_48 : decode mM_as.2.1 48 = .ok (.goto (-14), 3) := by decide +kernel
theorem dM_as_51 : decode mM_as.2.1 51 = .ok (.iload_n 3, 1) := by decide +kernel
theorem dM_as_52 : decode mM_as.2.1 52 = .ok (.ifCond .ge 12, 3) := by decide +kernel
theorem dM_as_55 : decode mM_as.2.1 55 = .ok (.aload_n 0, 1) := by decide +kernel
theorem dM_as_56 : decode mM_as.2.1 56 = .ok (.ldc 94, 2) := by decide +kernel
theorem dM_as_58 : decode mM_as.2.1 58 = .ok (.invokevirtual 79, 3) := by decide +kernel
theorem dM_as_61 : decode mM_as.2.1 61 = .ok (.goto 8, 3) := by decide +kernel
theorem dM_as_64 : decode mM_as.2.1 64 = .ok (.aload_n 0, 1) := by decide +kernel
theorem dM_as_65 : decode mM_as.2.1 65 = .ok (.iload_n 1, 1) := by decide +kernel
theorem dM_as_66 : decode mM_as.2.1 66 = .ok (.invokevirtual 95, 3) := by decide +kernel
theorem dM_as_69 : decode mM_as.2.1 69 = .ok (.ireturn, 1) := by decide +kernel
theorem dM_is_0 : decode mM_is.2.1 0 = .ok (.iload_n 1, 1) := by decide +kernel
theorem dM_is_1 : decode mM_is.2.1 1 = .ok (.i2l, 1) := by decide +kernel
theorem dM_is_2 : decode mM_is.2.1 2 = .ok (.lconst 0, 1) := by decide +kernel
theorem dM_is_3 : decode mM_is.2.1 3 = .ok (.aload_n 0, 1) := by decide +kernel
theorem dM_is_4 : decode mM_is.2.1 4 = .ok (.getfield 9, 3) := by decide +kernel
theorem dM_is_7 : decode mM_is.2.1 7 = .ok (.iload_n 2, 1) := by decide +kernel
theorem dM_is_8 : decode mM_is.2.1 8 = .ok (.iaload, 1) := by decide +kernel
theorem dM_is_9 : decode mM_is.2.1 9 = .ok (.iconst 1, 1) := by decide +kernel
theorem dM_is_10 : decode mM_is.2.1 10 = .ok (.isub, 1) := by decide +kernel
theorem dM_is_11 : decode mM_is.2.1 11 = .ok (.i2l, 1) := by decide +kernel
theorem dM_is_12 : decode mM_is.2.1 12 = .ok (.invokestatic 68, 3) := by decide +kernel
theorem dM_is_15 : decode mM_is.2.1 15 = .ok (.ireturn, 1) := by decide +kernel
theorem dM_kindOf_0 : decode mM_kindOf.2.1 0 = .ok (.aload_n 0, 1) := by decide +kernel
theorem dM_kindOf_1 : decode mM_kindOf.2.1 1 = .ok (.getfield 9, 3) := by decide +kernel
theorem dM_kindOf_4 : decode mM_kindOf.2.1 4 = .ok (.bipush 10, 2) := by decide +kernel
theorem dM_kindOf_6 : decode mM_kindOf.2.1 6 = .ok (.iconst 3, 1) := by decide +kernel
theorem dM_kindOf_7 : decode mM_kindOf.2.1 7 = .ok (.iload_n 1, 1) := by decide +kernel
theorem dM_kindOf_8 : decode mM_kindOf.2.1 8 = .ok (.imul, 1) := by decide +kernel
theorem dM_kindOf_9 : decode mM_kindOf.2.1 9 = .ok (.iadd, 1) := by decide +kernel
theorem dM_kindOf_10 : decode mM_kindOf.2.1 10 = .ok (.iconst 0, 1) := by decide +kernel
theorem dM_kindOf_11 : decode mM_kindOf.2.1 11 = .ok (.iadd, 1) := by decide +kernel
theorem dM_kindOf_12 : decode mM_kindOf.2.1 12 = .ok (.iaload, 1) := by decide +kernel
theorem dM_kindOf_13 : decode mM_kindOf.2.1 13 = .ok (.ireturn, 1) := by decide +kernel
theorem dM_above_0 : decode mM_above.2.1 0 = .ok (.iload_n 0, 1) := by decide +kernel
theorem dM_above_1 : decode mM_above.2.1 1 = .ok (.iconst 3, 1) := by decide +kernel
theorem dM_above_2 : decode mM_above.2.1 2 = .ok (.if_icmp .eq 8, 3) := by decide +kernel
theorem dM_above_5 : decode mM_above.2.1 5 = .ok (.iload_n 0, 1) := by decide +kernel
theorem dM_above_6 : decode mM_above.2.1 6 = .ok (.iconst 5, 1) := by decide +kernel
theorem dM_above_7 : decode mM_above.2.1 7 = .ok (.if_icmp .ne 7, 3) := by decide +kernel
theorem dM_above_10 : decode mM_above.2.1 10 = .ok (.iconst 2, 1) := by decide +kernel
theorem dM_above_11 : decode mM_above.2.1 11 = .ok (.goto 12, 3) := by decide +kernel
theorem dM_above_14 : decode mM_above.2.1 14 = .ok (.iload_n 0, 1) := by decide +kernel
theorem dM_above_15 : decode mM_above.2.1 15 = .ok (.ifCond .ne 7, 3) := by decide +kernel
theorem dM_above_18 : decode mM_above.2.1 18 = .ok (.iconst (-1), 1) := by decide +kernel
theorem dM_above_19 : decode mM_above.2.1 19 = .ok (.goto 4, 3) := by decide +kernel
theorem dM_above_22 : decode mM_above.2.1 22 = .ok (.iconst 0, 1) := by decide +kernel
theorem dM_above_23 : decode mM_above.2.1 23 = .ok (.ireturn, 1) := by decide +kernel
theorem dM_longOf_0 : decode mM_longOf.2.1 0 = .ok (.aload_n 0, 1) := by decide +kernel
theorem dM_longOf_1 : decode mM_longOf.2.1 1 = .ok (.getfield 9, 3) := by decide +kernel
theorem dM_longOf_4 : decode mM_longOf.2.1 4 = .ok (.bipush 10, 2) := by decide +kernel
theorem dM_longOf_6 : decode mM_longOf.2.1 6 = .ok (.iconst 3, 1) := by decide +kernel
theorem dM_longOf_7 : decode mM_longOf.2.1 7 = .ok (.iload_n 1, 1) := by decide +kernel
theorem dM_longOf_8 : decode mM_longOf.2.1 8 = .ok (.imul, 1) := by decide +kernel
theorem dM_longOf_9 : decode mM_longOf.2.1 9 = .ok (.iadd, 1) := by decide +kernel
theorem dM_longOf_10 : decode mM_longOf.2.1 10 = .ok (.iconst 1, 1) := by decide +kernel
theorem dM_longOf_11 : decode mM_longOf.2.1 11 = .ok (.iadd, 1) := by decide +kernel
theorem dM_longOf_12 : decode mM_longOf.2.1 12 = .ok (.iaload, 1) := by decide +kernel
theorem dM_longOf_13 : decode mM_longOf.2.1 13 = .ok (.ireturn, 1) := by decide +kernel
theorem dM_edit_0 : decode mM_edit.2.1 0 = .ok (.aload_n 0, 1) := by decide +kernel
theorem dM_edit_1 : decode mM_edit.2.1 1 = .ok (.iload_n 1, 1) := by decide +kernel
theorem dM_edit_2 : decode mM_edit.2.1 2 = .ok (.iconst 2, 1) := by decide +kernel
theorem dM_edit_3 : decode mM_edit.2.1 3 = .ok (.invokevirtual 84, 3) := by decide +kernel
theorem dM_edit_6 : decode mM_edit.2.1 6 = .ok (.ifCond .eq 15, 3) := by decide +kernel
theorem dM_edit_9 : decode mM_edit.2.1 9 = .ok (.iload_n 2, 1) := by decide +kernel
theorem dM_edit_10 : decode mM_edit.2.1 10 = .ok (.i2l, 1) := by decide +kernel
theorem dM_edit_11 : decode mM_edit.2.1 11 = .ok (.lconst 1, 1) := by decide +kernel
theorem dM_edit_12 : decode mM_edit.2.1 12 = .ok (.ldc2_w 76, 3) := by decide +kernel
theorem dM_edit_15 : decode mM_edit.2.1 15 = .ok (.invokestatic 68, 3) := by decide +kernel
theorem dM_edit_18 : decode mM_edit.2.1 18 = .ok (.ifCond .ne 10, 3) := by decide +kernel
theorem dM_edit_21 : decode mM_edit.2.1 21 = .ok (.aload_n 0, 1) := by decide +kernel
theorem dM_edit_22 : decode mM_edit.2.1 22 = .ok (.ldc 78, 2) := by decide +kernel
theorem dM_edit_24 : decode mM_edit.2.1 24 = .ok (.invokevirtual 79, 3) := by decide +kernel
theorem dM_edit_27 : decode mM_edit.2.1 27 = .ok (.ireturn, 1) := by decide +kernel
theorem dM_edit_28 : decode mM_edit.2.1 28 = .ok (.iload_n 2, 1) := by decide +kernel
theorem dM_edit_29 : decode mM_edit.2.1 29 = .ok (.aload_n 0, 1) := by decide +kernel
theorem dM_edit_30 : decode mM_edit.2.1 30 = .ok (.iload_n 1, 1) := by decide +kernel
theorem dM_edit_31 : decode mM_edit.2.1 31 = .ok (.invokevirtual 98, 3) := by decide +kernel
theorem dM_edit_34 : decode mM_edit.2.1 34 = .ok (.if_icmp .gt 10, 3) := by decide +kernel
theorem dM_edit_37 : decode mM_edit.2.1 37 = .ok (.aload_n 0, 1) := by decide +kernel
theorem dM_edit_38 : decode mM_edit.2.1 38 = .ok (.ldc 101, 2) := by decide +kernel
theorem dM_edit_40 : decode mM_edit.2.1 40 = .ok (.invokevirtual 79, 3) := by decide +kernel
theorem dM_edit_43 : decode mM_edit.2.1 43 = .ok (.ireturn, 1) := by decide +kernel
theorem dM_edit_44 : decode mM_edit.2.1 44 = .ok (.aload_n 0, 1) := by decide +kernel
theorem dM_edit_45 : decode mM_edit.2.1 45 = .ok (.iload_n 1, 1) := by decide +kernel
theorem dM_edit_46 : decode mM_edit.2.1 46 = .ok (.invokevirtual 95, 3) := by decide +kernel
theorem dM_edit_49 : decode mM_edit.2.1 49 = .ok (.istore_n 3, 1) := by decide +kernel
theorem dM_edit_50 : decode mM_edit.2.1 50 = .ok (.aload_n 0, 1) := by decide +kernel
theorem dM_edit_51 : decode mM_edit.2.1 51 = .ok (.getfield 9, 3) := by decide +kernel
theorem dM_edit_54 : decode mM_edit.2.1 54 = .ok (.bipush 10, 2) := by decide +kernel
theorem dM_edit_56 : decode mM_edit.2.1 56 = .ok (.iconst 3, 1) := by decide +kernel
theorem dM_edit_57 : decode mM_edit.2.1 57 = .ok (.iload_n 1, 1) := by decide +kernel
theorem dM_edit_58 : decode mM_edit.2.1 58 = .ok (.imul, 1) := by decide +kernel
theorem dM_edit_59 : decode mM_edit.2.1 59 = .ok (.iadd, 1) := by decide +kernel
theorem dM_edit_60 : decode mM_edit.2.1 60 = .ok (.iconst 1, 1) := by decide +kernel
theorem dM_edit_61 : decode mM_edit.2.1 61 = .ok (.iadd, 1) := by decide +kernel
theorem dM_edit_62 : decode mM_edit.2.1 62 = .ok (.iload_n 2, 1) := by decide +kernel
theorem dM_edit_63 : decode mM_edit.2.1 63 = .ok (.iastore, 1) := by decide +kernel
theorem dM_edit_64 : decode mM_edit.2.1 64 = .ok (.aload_n 0, 1) := by decide +kernel
theorem dM_edit_65 : decode mM_edit.2.1 65 = .ok (.invokevirtual 64, 3) := by decide +kernel
theorem dM_edit_68 : decode mM_edit.2.1 68 = .ok (.iload_n 3, 1) := by decide +kernel
theorem dM_edit_69 : decode mM_edit.2.1 69 = .ok (.ireturn, 1) := by decide +kernel
theorem dM_hurried_0 : decode mM_hurried.2.1 0 = .ok (.iconst 0, 1) := by decide +kernel
theorem dM_hurried_1 : decode mM_hurried.2.1 1 = .ok (.istore_n 2, 1) := by decide +kernel
theorem dM_hurried_2 : decode mM_hurried.2.1 2 = .ok (.iconst 0, 1) := by decide +kernel
theorem dM_hurried_3 : decode mM_hurried.2.1 3 = .ok (.istore_n 3, 1) := by decide +kernel
theorem dM_hurried_4 : decode mM_hurried.2.1 4 = .ok (.iload_n 3, 1) := by decide +kernel
theorem dM_hurried_5 : decode mM_hurried.2.1 5 = .ok (.aload_n 0, 1) := by decide +kernel
theorem dM_hurried_6 : decode mM_hurried.2.1 6 = .ok (.getfield 9, 3) := by decide +kernel
theorem dM_hurried_9 : decode mM_hurried.2.1 9 = .ok (.bipush 6, 2) := by decide +kernel
theorem dM_hurried_11 : decode mM_hurried.2.1 11 = .ok (.iaload, 1) := by decide +kernel
theorem dM_hurried_12 : decode mM_hurried.2.1 12 = .ok (.if_icmp .ge 44, 3) := by decide +kernel
theorem dM_hurried_15 : decode mM_hurried.2.1 15 = .ok (.aload_n 0, 1) := by decide +kernel
theorem dM_hurried_16 : decode mM_hurried.2.1 16 = .ok (.getfield 9, 3) := by decide +kernel
theorem dM_hurried_19 : decode mM_hurried.2.1 19 = .ok (.sipush 1018, 3) := by decide +kernel
theorem dM_hurried_22 : decode mM_hurried.2.1 22 = .ok (.iconst 3, 1) := by decide +kernel
theorem dM_hurried_23 : decode mM_hurried.2.1 23 = .ok (.iload_n 3, 1) := by decide +kernel
theorem dM_hurried_24 : decode mM_hurried.2.1 24 = .ok (.imul, 1) := by decide +kernel
theorem dM_hurried_25 : decode mM_hurried.2.1 25 = .ok (.iadd, 1) := by decide +kernel
theorem dM_hurried_26 : decode mM_hurried.2.1 26 = .ok (.iaload, 1) := by decide +kernel
theorem dM_hurried_27 : decode mM_hurried.2.1 27 = .ok (.iload_n 1, 1) := by decide +kernel
theorem dM_hurried_28 : decode mM_hurried.2.1 28 = .ok (.if_icmp .ne 20, 3) := by decide +kernel
theorem dM_hurried_31 : decode mM_hurried.2.1 31 = .ok (.aload_n 0, 1) := by decide +kernel
theorem dM_hurried_32 : decode mM_hurried.2.1 32 = .ok (.getfield 9, 3) := by decide +kernel
theorem dM_hurried_35 : decode mM_hurried.2.1 35 = .ok (.sipush 1018, 3) := by decide +kernel
theorem dM_hurried_38 : decode mM_hurried.2.1 38 = .ok (.iconst 3, 1) := by decide +kernel
theorem dM_hurried_39 : decode mM_hurried.2.1 39 = .ok (.iload_n 3, 1) := by decide +kernel
theorem dM_hurried_40 : decode mM_hurried.2.1 40 = .ok (.imul, 1) := by decide +kernel
theorem dM_hurried_41 : decode mM_hurried.2.1 41 = .ok (.iadd, 1) := by decide +kernel
theorem dM_hurried_42 : decode mM_hurried.2.1 42 = .ok (.iconst 1, 1) := by decide +kernel
theorem dM_hurried_43 : decode mM_hurried.2.1 43 = .ok (.iadd, 1) := by decide +kernel
theorem dM_hurried_44 : decode mM_hurried.2.1 44 = .ok (.iaload, 1) := by decide +kernel
theorem dM_hurried_45 : decode mM_hurried.2.1 45 = .ok (.goto 4, 3) := by decide +kernel
theorem dM_hurried_48 : decode mM_hurried.2.1 48 = .ok (.iload_n 2, 1) := by decide +kernel
theorem dM_hurried_49 : decode mM_hurried.2.1 49 = .ok (.istore_n 2, 1) := by decide +kernel
theorem dM_hurried_50 : decode mM_hurried.2.1 50 = .ok (.iinc 3 1, 3) := by decide +kernel
theorem dM_hurried_53 : decode mM_hurried.2.1 53 = .ok (.goto (-49), 3) := by decide +kernel
theorem dM_hurried_56 : decode mM_hurried.2.1 56 = .ok (.iload_n 2, 1) := by decide +kernel
theorem dM_hurried_57 : decode mM_hurried.2.1 57 = .ok (.ireturn, 1) := by decide +kernel
theorem dM_link_0 : decode mM_link.2.1 0 = .ok (.aload_n 0, 1) := by decide +kernel
theorem dM_link_1 : decode mM_link.2.1 1 = .ok (.iload_n 1, 1) := by decide +kernel
theorem dM_link_2 : decode mM_link.2.1 2 = .ok (.iconst 2, 1) := by decide +kernel
theorem dM_link_3 : decode mM_link.2.1 3 = .ok (.invokevirtual 84, 3) := by decide +kernel
theorem dM_link_6 : decode mM_link.2.1 6 = .ok (.ifCond .eq 29, 3) := by decide +kernel
theorem dM_link_9 : decode mM_link.2.1 9 = .ok (.aload_n 0, 1) := by decide +kernel
theorem dM_link_10 : decode mM_link.2.1 10 = .ok (.iload_n 2, 1) := by decide +kernel
theorem dM_link_11 : decode mM_link.2.1 11 = .ok (.iconst 2, 1) := by decide +kernel
theorem dM_link_12 : decode mM_link.2.1 12 = .ok (.invokevirtual 84, 3) := by decide +kernel
theorem dM_link_15 : decode mM_link.2.1 15 = .ok (.ifCond .eq 20, 3) := by decide +kernel
theorem dM_link_18 : decode mM_link.2.1 18 = .ok (.iload_n 1, 1) := by decide +kernel
theorem dM_link_19 : decode mM_link.2.1 19 = .ok (.iload_n 2, 1) := by decide +kernel
theorem dM_link_20 : decode mM_link.2.1 20 = .ok (.if_icmp .eq 15, 3) := by decide +kernel
theorem dM_link_23 : decode mM_link.2.1 23 = .ok (.iload_n 3, 1) := by decide +kernel
theorem dM_link_24 : decode mM_link.2.1 24 = .ok (.i2l, 1) := by decide +kernel
theorem dM_link_25 : decode mM_link.2.1 25 = .ok (.lconst 0, 1) := by decide +kernel
theorem dM_link_26 : decode mM_link.2.1 26 = .ok (.ldc2_w 105, 3) := by decide +kernel
theorem dM_link_29 : decode mM_link.2.1 29 = .ok (.invokestatic 68, 3) := by decide +kernel
theorem dM_link_32 : decode mM_link.2.1 32 = .ok (.ifCond .ne 10, 3) := by decide +kernel
theorem dM_link_35 : decode mM_link.2.1 35 = .ok (.aload_n 0, 1) := by decide +kernel
theorem dM_link_36 : decode mM_link.2.1 36 = .ok (.ldc 78, 2) := by decide +kernel
theorem dM_link_38 : decode mM_link.2.1 38 = .ok (.invokevirtual 79, 3) := by decide +kernel
theorem dM_link_41 : decode mM_link.2.1 41 = .ok (.ireturn, 1) := by decide +kernel
theorem dM_link_42 : decode mM_link.2.1 42 = .ok (.aload_n 0, 1) := by decide +kernel
theorem dM_link_43 : decode mM_link.2.1 43 = .ok (.iload_n 1, 1) := by decide +kernel
theorem dM_link_44 : decode mM_link.2.1 44 = .ok (.iload_n 2, 1) := by decide +kernel
theorem dM_link_45 : decode mM_link.2.1 45 = .ok (.invokevirtual 107, 3) := by decide +kernel
theorem dM_link_48 : decode mM_link.2.1 48 = .ok (.ifCond .ge 12, 3) := by decide +kernel
theorem dM_link_51 : decode mM_link.2.1 51 = .ok (.aload_n 0, 1) := by decide +kernel
theorem dM_link_52 : decode mM_link.2.1 52 = .ok (.iload_n 2, 1) := by decide +kernel
theorem dM_link_53 : decode mM_link.2.1 53 = .ok (.iload_n 1, 1) := by decide +kernel
theorem dM_link_54 : decode mM_link.2.1 54 = .ok (.invokevirtual 111, 3) := by decide +kernel
theorem dM_link_57 : decode mM_link.2.1 57 = .ok (.ifCond .eq 10, 3) := by decide +kernel
theorem dM_link_60 : decode mM_link.2.1 60 = .ok (.aload_n 0, 1) := by decide +kernel
theorem dM_link_61 : decode mM_link.2.1 61 = .ok (.ldc 101, 2) := by decide +kernel
theorem dM_link_63 : decode mM_link.2.1 63 = .ok (.invokevirtual 79, 3) := by decide +kernel
theorem dM_link_66 : decode mM_link.2.1 66 = .ok (.ireturn, 1) := by decide +kernel
theorem dM_link_67 : decode mM_link.2.1 67 = .ok (.aload_n 0, 1) := by decide +kernel
theorem dM_link_68 : decode mM_link.2.1 68 = .ok (.getfield 9, 3) := by decide +kernel
theorem dM_link_71 : decode mM_link.2.1 71 = .ok (.iconst 3, 1) := by decide +kernel
theorem dM_link_72 : decode mM_link.2.1 72 = .ok (.iaload, 1) := by decide +kernel
theorem dM_link_73 : decode mM_link.2.1 73 = .ok (.istore 4, 2) := by decide +kernel
theorem dM_link_75 : decode mM_link.2.1 75 = .ok (.iload 4, 2) := by decide +kernel
theorem dM_link_77 : decode mM_link.2.1 77 = .ok (.bipush 30, 2) := by decide +kernel
theorem dM_link_79 : decode mM_link.2.1 79 = .ok (.if_icmp .ne 10, 3) := by decide +kernel
theorem dM_link_82 : decode mM_link.2.1 82 = .ok (.aload_n 0, 1) := by decide +kernel
theorem dM_link_83 : decode mM_link.2.1 83 = .ok (.ldc 83, 2) := by decide +kernel
theorem dM_link_85 : decode mM_link.2.1 85 = .ok (.invokevirtual 79, 3) := by decide +kernel
theorem dM_link_88 : decode mM_link.2.1 88 = .ok (.ireturn, 1) := by decide +kernel
theorem dM_link_89 : decode mM_link.2.1 89 = .ok (.aload_n 0, 1) := by decide +kernel
theorem dM_link_90 : decode mM_link.2.1 90 = .ok (.getfield 9, 3) := by decide +kernel
theorem dM_link_93 : decode mM_link.2.1 93 = .ok (.bipush 58, 2) := by decide +kernel
theorem dM_link_95 : decode mM_link.2.1 95 = .ok (.iconst 3, 1) := by decide +kernel
theorem dM_link_96 : decode mM_link.2.1 96 = .ok (.iload 4, 2) := by decide +kernel
theorem dM_link_98 : decode mM_link.2.1 98 = .ok (.imul, 1) := by decide +kernel
theorem dM_link_99 : decode mM_link.2.1 99 = .ok (.iadd, 1) := by decide +kernel
theorem dM_link_100 : decode mM_link.2.1 100 = .ok (.iload_n 1, 1) := by decide +kernel
theorem dM_link_101 : decode mM_link.2.1 101 = .ok (.iastore, 1) := by decide +kernel
theorem dM_link_102 : decode mM_link.2.1 102 = .ok (.aload_n 0, 1) := by decide +kernel
theorem dM_link_103 : decode mM_link.2.1 103 = .ok (.getfield 9, 3) := by decide +kernel
theorem dM_link_106 : decode mM_link.2.1 106 = .ok (.bipush 58, 2) := by decide +kernel
theorem dM_link_108 : decode mM_link.2.1 108 = .ok (.iconst 3, 1) := by decide +kernel
theorem dM_link_109 : decode mM_link.2.1 109 = .ok (.iload 4, 2) := by decide +kernel
theorem dM_link_111 : decode mM_link.2.1 111 = .ok (.imul, 1) := by decide +kernel
theorem dM_link_112 : decode mM_link.2.1 112 = .ok (.iadd, 1) := by decide +kernel
theorem dM_link_113 : decode mM_link.2.1 113 = .ok (.iconst 1, 1) := by decide +kernel
theorem dM_link_114 : decode mM_link.2.1 114 = .ok (.iadd, 1) := by decide +kernel
theorem dM_link_115 : decode mM_link.2.1 115 = .ok (.iload_n 2, 1) := by decide +kernel
theorem dM_link_116 : decode mM_link.2.1 116 = .ok (.iastore, 1) := by decide +kernel
theorem dM_link_117 : decode mM_link.2.1 117 = .ok (.aload_n 0, 1) := by decide +kernel
theorem dM_link_118 : decode mM_link.2.1 118 = .ok (.getfield 9, 3) := by decide +kernel
theorem dM_link_121 : decode mM_link.2.1 121 = .ok (.bipush 58, 2) := by decide +kernel
theorem dM_link_123 : decode mM_link.2.1 123 = .ok (.iconst 3, 1) := by decide +kernel
theorem dM_link_124 : decode mM_link.2.1 124 = .ok (.iload 4, 2) := by decide +kernel
theorem dM_link_126 : decode mM_link.2.1 126 = .ok (.imul, 1) := by decide +kernel
theorem dM_link_127 : decode mM_link.2.1 127 = .ok (.iadd, 1) := by decide +kernel
theorem dM_link_128 : decode mM_link.2.1 128 = .ok (.iconst 2, 1) := by decide +kernel
theorem dM_link_129 : decode mM_link.2.1 129 = .ok (.iadd, 1) := by decide +kernel
theorem dM_link_130 : decode mM_link.2.1 130 = .ok (.iload_n 3, 1) := by decide +kernel
theorem dM_link_131 : decode mM_link.2.1 131 = .ok (.iastore, 1) := by decide +kernel
theorem dM_link_132 : decode mM_link.2.1 132 = .ok (.aload_n 0, 1) := by decide +kernel
theorem dM_link_133 : decode mM_link.2.1 133 = .ok (.getfield 9, 3) := by decide +kernel
theorem dM_link_136 : decode mM_link.2.1 136 = .ok (.iconst 3, 1) := by decide +kernel
theorem dM_link_137 : decode mM_link.2.1 137 = .ok (.dup2, 1) := by decide +kernel
theorem dM_link_138 : decode mM_link.2.1 138 = .ok (.iaload, 1) := by decide +kernel
theorem dM_link_139 : decode mM_link.2.1 139 = .ok (.iconst 1, 1) := by decide +kernel
theorem dM_link_140 : decode mM_link.2.1 140 = .ok (.iadd, 1) := by decide +kernel
theorem dM_link_141 : decode mM_link.2.1 141 = .ok (.iastore, 1) := by decide +kernel
theorem dM_link_142 : decode mM_link.2.1 142 = .ok (.aload_n 0, 1) := by decide +kernel
theorem dM_link_143 : decode mM_link.2.1 143 = .ok (.invokevirtual 64, 3) := by decide +kernel
theorem dM_link_146 : decode mM_link.2.1 146 = .ok (.aload_n 0, 1) := by decide +kernel
theorem dM_link_147 : decode mM_link.2.1 147 = .ok (.getfield 9, 3) := by decide +kernel
theorem dM_link_150 : decode mM_link.2.1 150 = .ok (.iconst 3, 1) := by decide +kernel
theorem dM_link_151 : decode mM_link.2.1 151 = .ok (.iaload, 1) := by decide +kernel
theorem dM_link_152 : decode mM_link.2.1 152 = .ok (.ireturn, 1) := by decide +kernel
theorem dM_linkAt_0 : decode mM_linkAt.2.1 0 = .ok (.iconst 0, 1) := by decide +kernel
theorem dM_linkAt_1 : decode mM_linkAt.2.1 1 = .ok (.istore_n 3, 1) := by decide +kernel
theorem dM_linkAt_2 : decode mM_linkAt.2.1 2 = .ok (.iload_n 3, 1) := by decide +kernel
theorem dM_linkAt_3 : decode mM_linkAt.2.1 3 = .ok (.aload_n 0, 1) := by decide +kernel
theorem dM_linkAt_4 : decode mM_linkAt.2.1 4 = .ok (.getfield 9, 3) := by decide +kernel
theorem dM_linkAt_7 : decode mM_linkAt.2.1 7 = .ok (.iconst 3, 1) := by decide +kernel
theorem dM_linkAt_8 : decode mM_linkAt.2.1 8 = .ok (.iaload, 1) := by decide +kernel
theorem dM_linkAt_9 : decode mM_linkAt.2.1 9 = .ok (.if_icmp .ge 43, 3) := by decide +kernel
theorem dM_linkAt_12 : decode mM_linkAt.2.1 12 = .ok (.aload_n 0, 1) := by decide +kernel
theorem dM_linkAt_13 : decode mM_linkAt.2.1 13 = .ok (.getfield 9, 3) := by decide +kernel
theorem dM_linkAt_16 : decode mM_linkAt.2.1 16 = .ok (.bipush 58, 2) := by decide +kernel
theorem dM_linkAt_18 : decode mM_linkAt.2.1 18 = .ok (.iconst 3, 1) := by decide +kernel
theorem dM_linkAt_19 : decode mM_linkAt.2.1 19 = .ok (.iload_n 3, 1) := by decide +kernel
theorem dM_linkAt_20 : decode mM_linkAt.2.1 20 = .ok (.imul, 1) := by decide +kernel
theorem dM_linkAt_21 : decode mM_linkAt.2.1 21 = .ok (.iadd, 1) := by decide +kernel
theorem dM_linkAt_22 : decode mM_linkAt.2.1 22 = .ok (.iaload, 1) := by decide +kernel
theorem dM_linkAt_23 : decode mM_linkAt.2.1 23 = .ok (.iload_n 1, 1) := by decide +kernel
theorem dM_linkAt_24 : decode mM_linkAt.2.1 24 = .ok (.if_icmp .ne 22, 3) := by decide +kernel
theorem dM_linkAt_27 : decode mM_linkAt.2.1 27 = .ok (.aload_n 0, 1) := by decide +kernel
theorem dM_linkAt_28 : decode mM_linkAt.2.1 28 = .ok (.getfield 9, 3) := by decide +kernel
theorem dM_linkAt_31 : decode mM_linkAt.2.1 31 = .ok (.bipush 58, 2) := by decide +kernel
theorem dM_linkAt_33 : decode mM_linkAt.2.1 33 = .ok (.iconst 3, 1) := by decide +kernel
theorem dM_linkAt_34 : decode mM_linkAt.2.1 34 = .ok (.iload_n 3, 1) := by decide +kernel
theorem dM_linkAt_35 : decode mM_linkAt.2.1 35 = .ok (.imul, 1) := by decide +kernel
theorem dM_linkAt_36 : decode mM_linkAt.2.1 36 = .ok (.iadd, 1) := by decide +kernel
theorem dM_linkAt_37 : decode mM_linkAt.2.1 37 = .ok (.iconst 1, 1) := by decide +kernel
theorem dM_linkAt_38 : decode mM_linkAt.2.1 38 = .ok (.iadd, 1) := by decide +kernel
theorem dM_linkAt_39 : decode mM_linkAt.2.1 39 = .ok (.iaload, 1) := by decide +kernel
theorem dM_linkAt_40 : decode mM_linkAt.2.1 40 = .ok (.iload_n 2, 1) := by decide +kernel
theorem dM_linkAt_41 : decode mM_linkAt.2.1 41 = .ok (.if_icmp .ne 5, 3) := by decide +kernel
theorem dM_linkAt_44 : decode mM_linkAt.2.1 44 = .ok (.iload_n 3, 1) := by decide +kernel
theorem dM_linkAt_45 : decode mM_linkAt.2.1 45 = .ok (.ireturn, 1) := by decide +kernel
theorem dM_linkAt_46 : decode mM_linkAt.2.1 46 = .ok (.iinc 3 1, 3) := by decide +kernel
theorem dM_linkAt_49 : decode mM_linkAt.2.1 49 = .ok (.goto (-47), 3) := by decide +kernel
theorem dM_linkAt_52 : decode mM_linkAt.2.1 52 = .ok (.iconst (-1), 1) := by decide +kernel
theorem dM_linkAt_53 : decode mM_linkAt.2.1 53 = .ok (.ireturn, 1) := by decide +kernel
theorem dM_leads_0 : decode mM_leads.2.1 0 = .ok (.iconst 1, 1) := by decide +kernel
theorem dM_leads_1 : decode mM_leads.2.1 1 = .ok (.iload_n 1, 1) := by decide +kernel
theorem dM_leads_2 : decode mM_leads.2.1 2 = .ok (.ishl, 1) := by decide +kernel
theorem dM_leads_3 : decode mM_leads.2.1 3 = .ok (.istore_n 3, 1) := by decide +kernel
theorem dM_leads_4 : decode mM_leads.2.1 4 = .ok (.iconst 0, 1) := by decide +kernel
theorem dM_leads_5 : decode mM_leads.2.1 5 = .ok (.istore 4, 2) := by decide +kernel
theorem dM_leads_7 : decode mM_leads.2.1 7 = .ok (.iload 4, 2) := by decide +kernel
theorem dM_leads_9 : decode mM_leads.2.1 9 = .ok (.bipush 16, 2) := by decide +kernel
theorem dM_leads_11 : decode mM_leads.2.1 11 = .ok (.if_icmp .ge 71, 3) := by decide +kernel
theorem dM_leads_14 : decode mM_leads.2.1 14 = .ok (.iconst 0, 1) := by decide +kernel
theorem dM_leads_15 : decode mM_leads.2.1 15 = .ok (.istore 5, 2) := by decide +kernel
theorem dM_leads_17 : decode mM_leads.2.1 17 = .ok (.iload 5, 2) := by decide +kernel
theorem dM_leads_19 : decode mM_leads.2.1 19 = .ok (.aload_n 0, 1) := by decide +kernel
theorem dM_leads_20 : decode mM_leads.2.1 20 = .ok (.getfield 9, 3) := by decide +kernel
theorem dM_leads_23 : decode mM_leads.2.1 23 = .ok (.iconst 3, 1) := by decide +kernel
theorem dM_leads_24 : decode mM_leads.2.1 24 = .ok (.iaload, 1) := by decide +kernel
theorem dM_leads_25 : decode mM_leads.2.1 25 = .ok (.if_icmp .ge 51, 3) := by decide +kernel
theorem dM_leads_28 : decode mM_leads.2.1 28 = .ok (.iload_n 3, 1) := by decide +kernel
theorem dM_leads_29 : decode mM_leads.2.1 29 = .ok (.iload_n 3, 1) := by decide +kernel
theorem dM_leads_30 : decode mM_leads.2.1 30 = .ok (.aload_n 0, 1) := by decide +kernel
theorem dM_leads_31 : decode mM_leads.2.1 31 = .ok (.getfield 9, 3) := by decide +kernel
theorem dM_leads_34 : decode mM_leads.2.1 34 = .ok (.bipush 58, 2) := by decide +kernel
theorem dM_leads_36 : decode mM_leads.2.1 36 = .ok (.iconst 3, 1) := by decide +kernel
theorem dM_leads_37 : decode mM_leads.2.1 37 = .ok (.iload 5, 2) := by decide +kernel
theorem dM_leads_39 : decode mM_leads.2.1 39 = .ok (.imul, 1) := by decide +kernel
theorem dM_leads_40 : decode mM_leads.2.1 40 = .ok (.iadd, 1) := by decide +kernel
theorem dM_leads_41 : decode mM_leads.2.1 41 = .ok (.iaload, 1) := by decide +kernel
theorem dM_leads_42 : decode mM_leads.2.1 42 = .ok (.invokestatic 102, 3) := by decide +kernel
theorem dM_leads_45 : decode mM_leads.2.1 45 = .ok (.ifCond .eq 22, 3) := by decide +kernel
theorem dM_leads_48 : decode mM_leads.2.1 48 = .ok (.iconst 1, 1) := by decide +kernel
theorem dM_leads_49 : decode mM_leads.2.1 49 = .ok (.aload_n 0, 1) := by decide +kernel
theorem dM_leads_50 : decode mM_leads.2.1 50 = .ok (.getfield 9, 3) := by decide +kernel
theorem dM_leads_53 : decode mM_leads.2.1 53 = .ok (.bipush 58, 2) := by decide +kernel
theorem dM_leads_55 : decode mM_leads.2.1 55 = .ok (.iconst 3, 1) := by decide +kernel
theorem dM_leads_56 : decode mM_leads.2.1 56 = .ok (.iload 5, 2) := by decide +kernel
theorem dM_leads_58 : decode mM_leads.2.1 58 = .ok (.imul, 1) := by decide +kernel
theorem dM_leads_59 : decode mM_leads.2.1 59 = .ok (.iadd, 1) := by decide +kernel
theorem dM_leads_60 : decode mM_leads.2.1 60 = .ok (.iconst 1, 1) := by decide +kernel
theorem dM_leads_61 : decode mM_leads.2.1 61 = .ok (.iadd, 1) := by decide +kernel
theorem dM_leads_62 : decode mM_leads.2.1 62 = .ok (.iaload, 1) := by decide +kernel
theorem dM_leads_63 : decode mM_leads.2.1 63 = .ok (.ishl, 1) := by decide +kernel
theorem dM_leads_64 : decode mM_leads.2.1 64 = .ok (.goto 4, 3) := by decide +kernel
theorem dM_leads_67 : decode mM_leads.2.1 67 = .ok (.iconst 0, 1) := by decide +kernel
theorem dM_leads_68 : decode mM_leads.2.1 68 = .ok (.ior, 1) := by decide +kernel
theorem dM_leads_69 : decode mM_leads.2.1 69 = .ok (.istore_n 3, 1) := by decide +kernel
theorem dM_leads_70 : decode mM_leads.2.1 70 = .ok (.iinc 5 1, 3) := by decide +kernel
theorem dM_leads_73 : decode mM_leads.2.1 73 = .ok (.goto (-56), 3) := by decide +kernel
theorem dM_leads_76 : decode mM_leads.2.1 76 = .ok (.iinc 4 1, 3) := by decide +kernel
theorem dM_leads_79 : decode mM_leads.2.1 79 = .ok (.goto (-72), 3) := by decide +kernel
theorem dM_leads_82 : decode mM_leads.2.1 82 = .ok (.iload_n 3, 1) := by decide +kernel
theorem dM_leads_83 : decode mM_leads.2.1 83 = .ok (.iload_n 2, 1) := by decide +kernel
theorem dM_leads_84 : decode mM_leads.2.1 84 = .ok (.invokestatic 102, 3) := by decide +kernel
theorem dM_leads_87 : decode mM_leads.2.1 87 = .ok (.ireturn, 1) := by decide +kernel
theorem dM_has_0 : decode mM_has.2.1 0 = .ok (.iload_n 0, 1) := by decide +kernel
theorem dM_has_1 : decode mM_has.2.1 1 = .ok (.iload_n 1, 1) := by decide +kernel
theorem dM_has_2 : decode mM_has.2.1 2 = .ok (.ishr, 1) := by decide +kernel
theorem dM_has_3 : decode mM_has.2.1 3 = .ok (.iconst 1, 1) := by decide +kernel
theorem dM_has_4 : decode mM_has.2.1 4 = .ok (.iand, 1) := by decide +kernel
theorem dM_has_5 : decode mM_has.2.1 5 = .ok (.iconst 1, 1) := by decide +kernel
theorem dM_has_6 : decode mM_has.2.1 6 = .ok (.if_icmp .ne 7, 3) := by decide +kernel
theorem dM_has_9 : decode mM_has.2.1 9 = .ok (.iconst 1, 1) := by decide +kernel
theorem dM_has_10 : decode mM_has.2.1 10 = .ok (.goto 4, 3) := by decide +kernel
theorem dM_has_13 : decode mM_has.2.1 13 = .ok (.iconst 0, 1) := by decide +kernel
theorem dM_has_14 : decode mM_has.2.1 14 = .ok (.ireturn, 1) := by decide +kernel
theorem dM_unlink_0 : decode mM_unlink.2.1 0 = .ok (.aload_n 0, 1) := by decide +kernel
theorem dM_unlink_1 : decode mM_unlink.2.1 1 = .ok (.iload_n 1, 1) := by decide +kernel
theorem dM_unlink_2 : decode mM_unlink.2.1 2 = .ok (.iconst 2, 1) := by decide +kernel
theorem dM_unlink_3 : decode mM_unlink.2.1 3 = .ok (.invokevirtual 84, 3) := by decide +kernel
theorem dM_unlink_6 : decode mM_unlink.2.1 6 = .ok (.ifCond .eq 12, 3) := by decide +kernel
theorem dM_unlink_9 : decode mM_unlink.2.1 9 = .ok (.aload_n 0, 1) := by decide +kernel
theorem dM_unlink_10 : decode mM_unlink.2.1 10 = .ok (.iload_n 2, 1) := by decide +kernel
theorem dM_unlink_11 : decode mM_unlink.2.1 11 = .ok (.iconst 2, 1) := by decide +kernel
theorem dM_unlink_12 : decode mM_unlink.2.1 12 = .ok (.invokevirtual 84, 3) := by decide +kernel
theorem dM_unlink_15 : decode mM_unlink.2.1 15 = .ok (.ifCond .ne 10, 3) := by decide +kernel
theorem dM_unlink_18 : decode mM_unlink.2.1 18 = .ok (.aload_n 0, 1) := by decide +kernel
theorem dM_unlink_19 : decode mM_unlink.2.1 19 = .ok (.ldc 78, 2) := by decide +kernel
theorem dM_unlink_21 : decode mM_unlink.2.1 21 = .ok (.invokevirtual 79, 3) := by decide +kernel
theorem dM_unlink_24 : decode mM_unlink.2.1 24 = .ok (.ireturn, 1) := by decide +kernel
theorem dM_unlink_25 : decode mM_unlink.2.1 25 = .ok (.aload_n 0, 1) := by decide +kernel
theorem dM_unlink_26 : decode mM_unlink.2.1 26 = .ok (.iload_n 1, 1) := by decide +kernel
theorem dM_unlink_27 : decode mM_unlink.2.1 27 = .ok (.iload_n 2, 1) := by decide +kernel
theorem dM_unlink_28 : decode mM_unlink.2.1 28 = .ok (.invokevirtual 107, 3) := by decide +kernel
theorem dM_unlink_31 : decode mM_unlink.2.1 31 = .ok (.istore_n 3, 1) := by decide +kernel
theorem dM_unlink_32 : decode mM_unlink.2.1 32 = .ok (.iload_n 3, 1) := by decide +kernel
theorem dM_unlink_33 : decode mM_unlink.2.1 33 = .ok (.ifCond .ge 10, 3) := by decide +kernel
theorem dM_unlink_36 : decode mM_unlink.2.1 36 = .ok (.aload_n 0, 1) := by decide +kernel
theorem dM_unlink_37 : decode mM_unlink.2.1 37 = .ok (.ldc 114, 2) := by decide +kernel
theorem dM_unlink_39 : decode mM_unlink.2.1 39 = .ok (.invokevirtual 79, 3) := by decide +kernel
theorem dM_unlink_42 : decode mM_unlink.2.1 42 = .ok (.ireturn, 1) := by decide +kernel
theorem dM_unlink_43 : decode mM_unlink.2.1 43 = .ok (.aload_n 0, 1) := by decide +kernel
theorem dM_unlink_44 : decode mM_unlink.2.1 44 = .ok (.getfield 9, 3) := by decide +kernel
theorem dM_unlink_47 : decode mM_unlink.2.1 47 = .ok (.bipush 58, 2) := by decide +kernel
theorem dM_unlink_49 : decode mM_unlink.2.1 49 = .ok (.iconst 3, 1) := by decide +kernel
theorem dM_unlink_50 : decode mM_unlink.2.1 50 = .ok (.iload_n 3, 1) := by decide +kernel
theorem dM_unlink_51 : decode mM_unlink.2.1 51 = .ok (.imul, 1) := by decide +kernel
theorem dM_unlink_52 : decode mM_unlink.2.1 52 = .ok (.iadd, 1) := by decide +kernel
theorem dM_unlink_53 : decode mM_unlink.2.1 53 = .ok (.iconst 2, 1) := by decide +kernel
theorem dM_unlink_54 : decode mM_unlink.2.1 54 = .ok (.iadd, 1) := by decide +kernel
theorem dM_unlink_55 : decode mM_unlink.2.1 55 = .ok (.iaload, 1) := by decide +kernel
theorem dM_unlink_56 : decode mM_unlink.2.1 56 = .ok (.istore 4, 2) := by decide +kernel
theorem dM_unlink_58 : decode mM_unlink.2.1 58 = .ok (.aload_n 0, 1) := by decide +kernel
theorem dM_unlink_59 : decode mM_unlink.2.1 59 = .ok (.getfield 9, 3) := by decide +kernel
theorem dM_unlink_62 : decode mM_unlink.2.1 62 = .ok (.iconst 3, 1) := by decide +kernel
theorem dM_unlink_63 : decode mM_unlink.2.1 63 = .ok (.dup2, 1) := by decide +kernel
theorem dM_unlink_64 : decode mM_unlink.2.1 64 = .ok (.iaload, 1) := by decide +kernel
theorem dM_unlink_65 : decode mM_unlink.2.1 65 = .ok (.iconst 1, 1) := by decide +kernel
theorem dM_unlink_66 : decode mM_unlink.2.1 66 = .ok (.isub, 1) := by decide +kernel
theorem dM_unlink_67 : decode mM_unlink.2.1 67 = .ok (.iastore, 1) := by decide +kernel
theorem dM_unlink_68 : decode mM_unlink.2.1 68 = .ok (.iconst 3, 1) := by decide +kernel
theorem dM_unlink_69 : decode mM_unlink.2.1 69 = .ok (.iload_n 3, 1) := by decide +kernel
theorem dM_unlink_70 : decode mM_unlink.2.1 70 = .ok (.imul, 1) := by decide +kernel
theorem dM_unlink_71 : decode mM_unlink.2.1 71 = .ok (.istore 5, 2) := by decide +kernel
theorem dM_unlink_73 : decode mM_unlink.2.1 73 = .ok (.iload 5, 2) := by decide +kernel
theorem dM_unlink_75 : decode mM_unlink.2.1 75 = .ok (.iconst 3, 1) := by decide +kernel
theorem dM_unlink_76 : decode mM_unlink.2.1 76 = .ok (.aload_n 0, 1) := by decide +kernel
theorem dM_unlink_77 : decode mM_unlink.2.1 77 = .ok (.getfield 9, 3) := by decide +kernel
theorem dM_unlink_80 : decode mM_unlink.2.1 80 = .ok (.iconst 3, 1) := by decide +kernel
theorem dM_unlink_81 : decode mM_unlink.2.1 81 = .ok (.iaload, 1) := by decide +kernel
theorem dM_unlink_82 : decode mM_unlink.2.1 82 = .ok (.imul, 1) := by decide +kernel
theorem dM_unlink_83 : decode mM_unlink.2.1 83 = .ok (.if_icmp .ge 31, 3) := by decide +kernel
theorem dM_unlink_86 : decode mM_unlink.2.1 86 = .ok (.aload_n 0, 1) := by decide +kernel
theorem dM_unlink_87 : decode mM_unlink.2.1 87 = .ok (.getfield 9, 3) := by decide +kernel
theorem dM_unlink_90 : decode mM_unlink.2.1 90 = .ok (.bipush 58, 2) := by decide +kernel
theorem dM_unlink_92 : decode mM_unlink.2.1 92 = .ok (.iload 5, 2) := by decide +kernel
theorem dM_unlink_94 : decode mM_unlink.2.1 94 = .ok (.iadd, 1) := by decide +kernel
theorem dM_unlink_95 : decode mM_unlink.2.1 95 = .ok (.aload_n 0, 1) := by decide +kernel
theorem dM_unlink_96 : decode mM_unlink.2.1 96 = .ok (.getfield 9, 3) := by decide +kernel
theorem dM_unlink_99 : decode mM_unlink.2.1 99 = .ok (.bipush 58, 2) := by decide +kernel
theorem dM_unlink_101 : decode mM_unlink.2.1 101 = .ok (.iload 5, 2) := by decide +kernel
theorem dM_unlink_103 : decode mM_unlink.2.1 103 = .ok (.iadd, 1) := by decide +kernel
theorem dM_unlink_104 : decode mM_unlink.2.1 104 = .ok (.iconst 3, 1) := by decide +kernel
theorem dM_unlink_105 : decode mM_unlink.2.1 105 = .ok (.iadd, 1) := by decide +kernel
theorem dM_unlink_106 : decode mM_unlink.2.1 106 = .ok (.iaload, 1) := by decide +kernel
theorem dM_unlink_107 : decode mM_unlink.2.1 107 = .ok (.iastore, 1) := by decide +kernel
theorem dM_unlink_108 : decode mM_unlink.2.1 108 = .ok (.iinc 5 1, 3) := by decide +kernel
theorem dM_unlink_111 : decode mM_unlink.2.1 111 = .ok (.goto (-38), 3) := by decide +kernel
theorem dM_unlink_114 : decode mM_unlink.2.1 114 = .ok (.aload_n 0, 1) := by decide +kernel
theorem dM_unlink_115 : decode mM_unlink.2.1 115 = .ok (.invokevirtual 64, 3) := by decide +kernel
theorem dM_unlink_118 : decode mM_unlink.2.1 118 = .ok (.iload 4, 2) := by decide +kernel
theorem dM_unlink_120 : decode mM_unlink.2.1 120 = .ok (.ireturn, 1) := by decide +kernel
theorem dM_week_0 : decode mM_week.2.1 0 = .ok (.iload_n 1, 1) := by decide +kernel
theorem dM_week_1 : decode mM_week.2.1 1 = .ok (.i2l, 1) := by decide +kernel
theorem dM_week_2 : decode mM_week.2.1 2 = .ok (.lconst 1, 1) := by decide +kernel
theorem dM_week_3 : decode mM_week.2.1 3 = .ok (.ldc2_w 115, 3) := by decide +kernel
theorem dM_week_6 : decode mM_week.2.1 6 = .ok (.invokestatic 68, 3) := by decide +kernel
theorem dM_week_9 : decode mM_week.2.1 9 = .ok (.ifCond .ne 10, 3) := by decide +kernel
theorem dM_week_12 : decode mM_week.2.1 12 = .ok (.aload_n 0, 1) := by decide +kernel
theorem dM_week_13 : decode mM_week.2.1 13 = .ok (.ldc 78, 2) := by decide +kernel
theorem dM_week_15 : decode mM_week.2.1 15 = .ok (.invokevirtual 79, 3) := by decide +kernel
theorem dM_week_18 : decode mM_week.2.1 18 = .ok (.ireturn, 1) := by decide +kernel
theorem dM_week_19 : decode mM_week.2.1 19 = .ok (.aload_n 0, 1) := by decide +kernel
theorem dM_week_20 : decode mM_week.2.1 20 = .ok (.getfield 9, 3) := by decide +kernel
theorem dM_week_23 : decode mM_week.2.1 23 = .ok (.iconst 1, 1) := by decide +kernel
theorem dM_week_24 : decode mM_week.2.1 24 = .ok (.iaload, 1) := by decide +kernel
theorem dM_week_25 : decode mM_week.2.1 25 = .ok (.istore_n 2, 1) := by decide +kernel
theorem dM_week_26 : decode mM_week.2.1 26 = .ok (.aload_n 0, 1) := by decide +kernel
theorem dM_week_27 : decode mM_week.2.1 27 = .ok (.getfield 9, 3) := by decide +kernel
theorem dM_week_30 : decode mM_week.2.1 30 = .ok (.iconst 1, 1) := by decide +kernel
theorem dM_week_31 : decode mM_week.2.1 31 = .ok (.iload_n 1, 1) := by decide +kernel
theorem dM_week_32 : decode mM_week.2.1 32 = .ok (.iastore, 1) := by decide +kernel
theorem dM_week_33 : decode mM_week.2.1 33 = .ok (.aload_n 0, 1) := by decide +kernel
theorem dM_week_34 : decode mM_week.2.1 34 = .ok (.invokevirtual 64, 3) := by decide +kernel
theorem dM_week_37 : decode mM_week.2.1 37 = .ok (.iload_n 2, 1) := by decide +kernel
theorem dM_week_38 : decode mM_week.2.1 38 = .ok (.ireturn, 1) := by decide +kernel
theorem dM_rain_0 : decode mM_rain.2.1 0 = .ok (.iload_n 2, 1) := by decide +kernel
theorem dM_rain_1 : decode mM_rain.2.1 1 = .ok (.i2l, 1) := by decide +kernel
theorem dM_rain_2 : decode mM_rain.2.1 2 = .ok (.lconst 1, 1) := by decide +kernel
theorem dM_rain_3 : decode mM_rain.2.1 3 = .ok (.ldc2_w 117, 3) := by decide +kernel
theorem dM_rain_6 : decode mM_rain.2.1 6 = .ok (.invokestatic 68, 3) := by decide +kernel
theorem dM_rain_9 : decode mM_rain.2.1 9 = .ok (.ifCond .eq 18, 3) := by decide +kernel
theorem dM_rain_12 : decode mM_rain.2.1 12 = .ok (.iload_n 1, 1) := by decide +kernel
theorem dM_rain_13 : decode mM_rain.2.1 13 = .ok (.i2l, 1) := by decide +kernel
theorem dM_rain_14 : decode mM_rain.2.1 14 = .ok (.lconst 0, 1) := by decide +kernel
theorem dM_rain_15 : decode mM_rain.2.1 15 = .ok (.ldc2_w 119, 3) := by decide +kernel
theorem dM_rain_18 : decode mM_rain.2.1 18 = .ok (.iload_n 2, 1) := by decide +kernel
theorem dM_rain_19 : decode mM_rain.2.1 19 = .ok (.i2l, 1) := by decide +kernel
theorem dM_rain_20 : decode mM_rain.2.1 20 = .ok (.lsub, 1) := by decide +kernel
theorem dM_rain_21 : decode mM_rain.2.1 21 = .ok (.invokestatic 68, 3) := by decide +kernel
theorem dM_rain_24 : decode mM_rain.2.1 24 = .ok (.ifCond .ne 10, 3) := by decide +kernel
theorem dM_rain_27 : decode mM_rain.2.1 27 = .ok (.aload_n 0, 1) := by decide +kernel
theorem dM_rain_28 : decode mM_rain.2.1 28 = .ok (.ldc 78, 2) := by decide +kernel
theorem dM_rain_30 : decode mM_rain.2.1 30 = .ok (.invokevirtual 79, 3) := by decide +kernel
theorem dM_rain_33 : decode mM_rain.2.1 33 = .ok (.ireturn, 1) := by decide +kernel
theorem dM_rain_34 : decode mM_rain.2.1 34 = .ok (.iconst 0, 1) := by decide +kernel
theorem dM_rain_35 : decode mM_rain.2.1 35 = .ok (.istore 4, 2) := by decide +kernel
theorem dM_rain_37 : decode mM_rain.2.1 37 = .ok (.iload_n 1, 1) := by decide +kernel
theorem dM_rain_38 : decode mM_rain.2.1 38 = .ok (.istore 5, 2) := by decide +kernel
theorem dM_rain_40 : decode mM_rain.2.1 40 = .ok (.iload 5, 2) := by decide +kernel
theorem dM_rain_42 : decode mM_rain.2.1 42 = .ok (.iload_n 1, 1) := by decide +kernel
theorem dM_rain_43 : decode mM_rain.2.1 43 = .ok (.iload_n 2, 1) := by decide +kernel
theorem dM_rain_44 : decode mM_rain.2.1 44 = .ok (.iadd, 1) := by decide +kernel
theorem dM_rain_45 : decode mM_rain.2.1 45 = .ok (.if_icmp .ge 62, 3) := by decide +kernel
theorem dM_rain_48 : decode mM_rain.2.1 48 = .ok (.iload 4, 2) := by decide +kernel
theorem dM_rain_50 : decode mM_rain.2.1 50 = .ok (.aload_n 0, 1) := by decide +kernel
theorem dM_rain_51 : decode mM_rain.2.1 51 = .ok (.getfield 9, 3) := by decide +kernel
theorem dM_rain_54 : decode mM_rain.2.1 54 = .ok (.sipush 1033, 3) := by decide +kernel
theorem dM_rain_57 : decode mM_rain.2.1 57 = .ok (.iload 5, 2) := by decide +kernel
theorem dM_rain_59 : decode mM_rain.2.1 59 = .ok (.iadd, 1) := by decide +kernel
theorem dM_rain_60 : decode mM_rain.2.1 60 = .ok (.iaload, 1) := by decide +kernel
theorem dM_rain_61 : decode mM_rain.2.1 61 = .ok (.iload_n 3, 1) := by decide +kernel
theorem dM_rain_62 : decode mM_rain.2.1 62 = .ok (.ifCond .eq 7, 3) := by decide +kernel
theorem dM_rain_65 : decode mM_rain.2.1 65 = .ok (.iconst 0, 1) := by decide +kernel
theorem dM_rain_66 : decode mM_rain.2.1 66 = .ok (.goto 4, 3) := by decide +kernel
theorem dM_rain_69 : decode mM_rain.2.1 69 = .ok (.iconst 1, 1) := by decide +kernel
theorem dM_rain_70 : decode mM_rain.2.1 70 = .ok (.if_icmp .ne 7, 3) := by decide +kernel
theorem dM_rain_73 : decode mM_rain.2.1 73 = .ok (.iconst 1, 1) := by decide +kernel
theorem dM_rain_74 : decode mM_rain.2.1 74 = .ok (.goto 4, 3) := by decide +kernel
theorem dM_rain_77 : decode mM_rain.2.1 77 = .ok (.iconst 0, 1) := by decide +kernel
theorem dM_rain_78 : decode mM_rain.2.1 78 = .ok (.iadd, 1) := by decide +kernel
theorem dM_rain_79 : decode mM_rain.2.1 79 = .ok (.istore 4, 2) := by decide +kernel
theorem dM_rain_81 : decode mM_rain.2.1 81 = .ok (.aload_n 0, 1) := by decide +kernel
theorem dM_rain_82 : decode mM_rain.2.1 82 = .ok (.getfield 9, 3) := by decide +kernel
theorem dM_rain_85 : decode mM_rain.2.1 85 = .ok (.sipush 1033, 3) := by decide +kernel
theorem dM_rain_88 : decode mM_rain.2.1 88 = .ok (.iload 5, 2) := by decide +kernel
theorem dM_rain_90 : decode mM_rain.2.1 90 = .ok (.iadd, 1) := by decide +kernel
theorem dM_rain_91 : decode mM_rain.2.1 91 = .ok (.iload_n 3, 1) := by decide +kernel
theorem dM_rain_92 : decode mM_rain.2.1 92 = .ok (.ifCond .eq 7, 3) := by decide +kernel
theorem dM_rain_95 : decode mM_rain.2.1 95 = .ok (.iconst 1, 1) := by decide +kernel
theorem dM_rain_96 : decode mM_rain.2.1 96 = .ok (.goto 4, 3) := by decide +kernel
theorem dM_rain_99 : decode mM_rain.2.1 99 = .ok (.iconst 0, 1) := by decide +kernel
theorem dM_rain_100 : decode mM_rain.2.1 100 = .ok (.iastore, 1) := by decide +kernel
theorem dM_rain_101 : decode mM_rain.2.1 101 = .ok (.iinc 5 1, 3) := by decide +kernel
theorem dM_rain_104 : decode mM_rain.2.1 104 = .ok (.goto (-64), 3) := by decide +kernel
theorem dM_rain_107 : decode mM_rain.2.1 107 = .ok (.aload_n 0, 1) := by decide +kernel
theorem dM_rain_108 : decode mM_rain.2.1 108 = .ok (.invokevirtual 64, 3) := by decide +kernel
theorem dM_rain_111 : decode mM_rain.2.1 111 = .ok (.iload 4, 2) := by decide +kernel
theorem dM_rain_113 : decode mM_rain.2.1 113 = .ok (.ireturn, 1) := by decide +kernel
theorem dM_today_0 : decode mM_today.2.1 0 = .ok (.iload_n 1, 1) := by decide +kernel
theorem dM_today_1 : decode mM_today.2.1 1 = .ok (.i2l, 1) := by decide +kernel
theorem dM_today_2 : decode mM_today.2.1 2 = .ok (.aload_n 0, 1) := by decide +kernel
theorem dM_today_3 : decode mM_today.2.1 3 = .ok (.getfield 9, 3) := by decide +kernel
theorem dM_today_6 : decode mM_today.2.1 6 = .ok (.iconst 0, 1) := by decide +kernel
theorem dM_today_7 : decode mM_today.2.1 7 = .ok (.iaload, 1) := by decide +kernel
theorem dM_today_8 : decode mM_today.2.1 8 = .ok (.i2l, 1) := by decide +kernel
theorem dM_today_9 : decode mM_today.2.1 9 = .ok (.ldc2_w 119, 3) := by decide +kernel
theorem dM_today_12 : decode mM_today.2.1 12 = .ok (.invokestatic 68, 3) := by decide +kernel
theorem dM_today_15 : decode mM_today.2.1 15 = .ok (.ifCond .ne 10, 3) := by decide +kernel
theorem dM_today_18 : decode mM_today.2.1 18 = .ok (.aload_n 0, 1) := by decide +kernel
theorem dM_today_19 : decode mM_today.2.1 19 = .ok (.ldc 78, 2) := by decide +kernel
theorem dM_today_21 : decode mM_today.2.1 21 = .ok (.invokevirtual 79, 3) := by decide +kernel
theorem dM_today_24 : decode mM_today.2.1 24 = .ok (.ireturn, 1) := by decide +kernel
theorem dM_today_25 : decode mM_today.2.1 25 = .ok (.aload_n 0, 1) := by decide +kernel
theorem dM_today_26 : decode mM_today.2.1 26 = .ok (.getfield 9, 3) := by decide +kernel
theorem dM_today_29 : decode mM_today.2.1 29 = .ok (.iconst 0, 1) := by decide +kernel
theorem dM_today_30 : decode mM_today.2.1 30 = .ok (.iaload, 1) := by decide +kernel
theorem dM_today_31 : decode mM_today.2.1 31 = .ok (.istore_n 2, 1) := by decide +kernel
theorem dM_today_32 : decode mM_today.2.1 32 = .ok (.aload_n 0, 1) := by decide +kernel
theorem dM_today_33 : decode mM_today.2.1 33 = .ok (.getfield 9, 3) := by decide +kernel
theorem dM_today_36 : decode mM_today.2.1 36 = .ok (.iconst 0, 1) := by decide +kernel
theorem dM_today_37 : decode mM_today.2.1 37 = .ok (.iload_n 1, 1) := by decide +kernel
theorem dM_today_38 : decode mM_today.2.1 38 = .ok (.iastore, 1) := by decide +kernel
theorem dM_today_39 : decode mM_today.2.1 39 = .ok (.iload_n 2, 1) := by decide +kernel
theorem dM_today_40 : decode mM_today.2.1 40 = .ok (.ireturn, 1) := by decide +kernel
theorem dM_event3_0 : decode mM_event3.2.1 0 = .ok (.iload_n 1, 1) := by decide +kernel
theorem dM_event3_1 : decode mM_event3.2.1 1 = .ok (.ifCond .lt 51, 3) := by decide +kernel
theorem dM_event3_4 : decode mM_event3.2.1 4 = .ok (.aload_n 0, 1) := by decide +kernel
theorem dM_event3_5 : decode mM_event3.2.1 5 = .ok (.iload_n 1, 1) := by decide +kernel
theorem dM_event3_6 : decode mM_event3.2.1 6 = .ok (.bipush 10, 2) := by decide +kernel
theorem dM_event3_8 : decode mM_event3.2.1 8 = .ok (.idiv, 1) := by decide +kernel
theorem dM_event3_9 : decode mM_event3.2.1 9 = .ok (.iconst 2, 1) := by decide +kernel
theorem dM_event3_10 : decode mM_event3.2.1 10 = .ok (.invokevirtual 84, 3) := by decide +kernel
theorem dM_event3_13 : decode mM_event3.2.1 13 = .ok (.ifCond .eq 39, 3) := by decide +kernel
theorem dM_event3_16 : decode mM_event3.2.1 16 = .ok (.iload_n 1, 1) := by decide +kernel
theorem dM_event3_17 : decode mM_event3.2.1 17 = .ok (.bipush 10, 2) := by decide +kernel
theorem dM_event3_19 : decode mM_event3.2.1 19 = .ok (.irem, 1) := by decide +kernel
theorem dM_event3_20 : decode mM_event3.2.1 20 = .ok (.iconst 3, 1) := by decide +kernel
theorem dM_event3_21 : decode mM_event3.2.1 21 = .ok (.if_icmp .gt 31, 3) := by decide +kernel
theorem dM_event3_24 : decode mM_event3.2.1 24 = .ok (.iload_n 2, 1) := by decide +kernel
theorem dM_event3_25 : decode mM_event3.2.1 25 = .ok (.i2l, 1) := by decide +kernel
theorem dM_event3_26 : decode mM_event3.2.1 26 = .ok (.lconst 0, 1) := by decide +kernel
theorem dM_event3_27 : decode mM_event3.2.1 27 = .ok (.aload_n 0, 1) := by decide +kernel
theorem dM_event3_28 : decode mM_event3.2.1 28 = .ok (.getfield 9, 3) := by decide +kernel
theorem dM_event3_31 : decode mM_event3.2.1 31 = .ok (.iconst 0, 1) := by decide +kernel
theorem dM_event3_32 : decode mM_event3.2.1 32 = .ok (.iaload, 1) := by decide +kernel
theorem dM_event3_33 : decode mM_event3.2.1 33 = .ok (.i2l, 1) := by decide +kernel
theorem dM_event3_34 : decode mM_event3.2.1 34 = .ok (.invokestatic 68, 3) := by decide +kernel
theorem dM_event3_37 : decode mM_event3.2.1 37 = .ok (.ifCond .eq 15, 3) := by decide +kernel
theorem dM_event3_40 : decode mM_event3.2.1 40 = .ok (.iload_n 3, 1) := by decide +kernel
theorem dM_event3_41 : decode mM_event3.2.1 41 = .ok (.i2l, 1) := by decide +kernel
theorem dM_event3_42 : decode mM_event3.2.1 42 = .ok (.lconst 1, 1) := by decide +kernel
theorem dM_event3_43 : decode mM_event3.2.1 43 = .ok (.ldc2_w 121, 3) := by decide +kernel
theorem dM_event3_46 : decode mM_event3.2.1 46 = .ok (.invokestatic 68, 3) := by decide +kernel
theorem dM_event3_49 : decode mM_event3.2.1 49 = .ok (.ifCond .ne 10, 3) := by decide +kernel
theorem dM_event3_52 : decode mM_event3.2.1 52 = .ok (.aload_n 0, 1) := by decide +kernel
theorem dM_event3_53 : decode mM_event3.2.1 53 = .ok (.ldc 78, 2) := by decide +kernel
theorem dM_event3_55 : decode mM_event3.2.1 55 = .ok (.invokevirtual 79, 3) := by decide +kernel
theorem dM_event3_58 : decode mM_event3.2.1 58 = .ok (.ireturn, 1) := by decide +kernel
theorem dM_event3_59 : decode mM_event3.2.1 59 = .ok (.aload_n 0, 1) := by decide +kernel
theorem dM_event3_60 : decode mM_event3.2.1 60 = .ok (.getfield 9, 3) := by decide +kernel
theorem dM_event3_63 : decode mM_event3.2.1 63 = .ok (.iconst 4, 1) := by decide +kernel
theorem dM_event3_64 : decode mM_event3.2.1 64 = .ok (.iaload, 1) := by decide +kernel
theorem dM_event3_65 : decode mM_event3.2.1 65 = .ok (.istore 4, 2) := by decide +kernel
theorem dM_event3_67 : decode mM_event3.2.1 67 = .ok (.iload 4, 2) := by decide +kernel
theorem dM_event3_69 : decode mM_event3.2.1 69 = .ok (.bipush 20, 2) := by decide +kernel
theorem dM_event3_71 : decode mM_event3.2.1 71 = .ok (.if_icmp .ne 10, 3) := by decide +kernel
theorem dM_event3_74 : decode mM_event3.2.1 74 = .ok (.aload_n 0, 1) := by decide +kernel
theorem dM_event3_75 : decode mM_event3.2.1 75 = .ok (.ldc 83, 2) := by decide +kernel
theorem dM_event3_77 : decode mM_event3.2.1 77 = .ok (.invokevirtual 79, 3) := by decide +kernel
theorem dM_event3_80 : decode mM_event3.2.1 80 = .ok (.ireturn, 1) := by decide +kernel
theorem dM_event3_81 : decode mM_event3.2.1 81 = .ok (.sipush 148, 3) := by decide +kernel
theorem dM_event3_84 : decode mM_event3.2.1 84 = .ok (.bipush 7, 2) := by decide +kernel
theorem dM_event3_86 : decode mM_event3.2.1 86 = .ok (.iload 4, 2) := by decide +kernel
theorem dM_event3_88 : decode mM_event3.2.1 88 = .ok (.imul, 1) := by decide +kernel
theorem dM_event3_89 : decode mM_event3.2.1 89 = .ok (.iadd, 1) := by decide +kernel
theorem dM_event3_90 : decode mM_event3.2.1 90 = .ok (.istore 5, 2) := by decide +kernel
theorem dM_event3_92 : decode mM_event3.2.1 92 = .ok (.aload_n 0, 1) := by decide +kernel
theorem dM_event3_93 : decode mM_event3.2.1 93 = .ok (.getfield 9, 3) := by decide +kernel
theorem dM_event3_96 : decode mM_event3.2.1 96 = .ok (.iload 5, 2) := by decide +kernel
theorem dM_event3_98 : decode mM_event3.2.1 98 = .ok (.iconst 0, 1) := by decide +kernel
theorem dM_event3_99 : decode mM_event3.2.1 99 = .ok (.iadd, 1) := by decide +kernel
theorem dM_event3_100 : decode mM_event3.2.1 100 = .ok (.iload_n 1, 1) := by decide +kernel
theorem dM_event3_101 : decode mM_event3.2.1 101 = .ok (.bipush 10, 2) := by decide +kernel
theorem dM_event3_103 : decode mM_event3.2.1 103 = .ok (.idiv, 1) := by decide +kernel
theorem dM_event3_104 : decode mM_event3.2.1 104 = .ok (.iastore, 1) := by decide +kernel
theorem dM_event3_105 : decode mM_event3.2.1 105 = .ok (.aload_n 0, 1) := by decide +kernel
theorem dM_event3_106 : decode mM_event3.2.1 106 = .ok (.getfield 9, 3) := by decide +kernel
theorem dM_event3_109 : decode mM_event3.2.1 109 = .ok (.iload 5, 2) := by decide +kernel
theorem dM_event3_111 : decode mM_event3.2.1 111 = .ok (.iconst 1, 1) := by decide +kernel
theorem dM_event3_112 : decode mM_event3.2.1 112 = .ok (.iadd, 1) := by decide +kernel
theorem dM_event3_113 : decode mM_event3.2.1 113 = .ok (.iload_n 1, 1) := by decide +kernel
theorem dM_event3_114 : decode mM_event3.2.1 114 = .ok (.bipush 10, 2) := by decide +kernel
theorem dM_event3_116 : decode mM_event3.2.1 116 = .ok (.irem, 1) := by decide +kernel
theorem dM_event3_117 : decode mM_event3.2.1 117 = .ok (.iastore, 1) := by decide +kernel
theorem dM_event3_118 : decode mM_event3.2.1 118 = .ok (.aload_n 0, 1) := by decide +kernel
theorem dM_event3_119 : decode mM_event3.2.1 119 = .ok (.getfield 9, 3) := by decide +kernel
theorem dM_event3_122 : decode mM_event3.2.1 122 = .ok (.iload 5, 2) := by decide +kernel
theorem dM_event3_124 : decode mM_event3.2.1 124 = .ok (.iconst 2, 1) := by decide +kernel
theorem dM_event3_125 : decode mM_event3.2.1 125 = .ok (.iadd, 1) := by decide +kernel
theorem dM_event3_126 : decode mM_event3.2.1 126 = .ok (.iload_n 2, 1) := by decide +kernel
theorem dM_event3_127 : decode mM_event3.2.1 127 = .ok (.iastore, 1) := by decide +kernel
theorem dM_event3_128 : decode mM_event3.2.1 128 = .ok (.aload_n 0, 1) := by decide +kernel
theorem dM_event3_129 : decode mM_event3.2.1 129 = .ok (.getfield 9, 3) := by decide +kernel
theorem dM_event3_132 : decode mM_event3.2.1 132 = .ok (.iload 5, 2) := by decide +kernel
theorem dM_event3_134 : decode mM_event3.2.1 134 = .ok (.iconst 3, 1) := by decide +kernel
theorem dM_event3_135 : decode mM_event3.2.1 135 = .ok (.iadd, 1) := by decide +kernel
theorem dM_event3_136 : decode mM_event3.2.1 136 = .ok (.iload_n 3, 1) := by decide +kernel
theorem dM_event3_137 : decode mM_event3.2.1 137 = .ok (.iastore, 1) := by decide +kernel
theorem dM_event3_138 : decode mM_event3.2.1 138 = .ok (.aload_n 0, 1) := by decide +kernel
theorem dM_event3_139 : decode mM_event3.2.1 139 = .ok (.getfield 9, 3) := by decide +kernel
theorem dM_event3_142 : decode mM_event3.2.1 142 = .ok (.iload 5, 2) := by decide +kernel
theorem dM_event3_144 : decode mM_event3.2.1 144 = .ok (.iconst 4, 1) := by decide +kernel
theorem dM_event3_145 : decode mM_event3.2.1 145 = .ok (.iadd, 1) := by decide +kernel
theorem dM_event3_146 : decode mM_event3.2.1 146 = .ok (.iconst (-1), 1) := by decide +kernel
theorem dM_event3_147 : decode mM_event3.2.1 147 = .ok (.iastore, 1) := by decide +kernel
theorem dM_event3_148 : decode mM_event3.2.1 148 = .ok (.aload_n 0, 1) := by decide +kernel
theorem dM_event3_149 : decode mM_event3.2.1 149 = .ok (.getfield 9, 3) := by decide +kernel
theorem dM_event3_152 : decode mM_event3.2.1 152 = .ok (.iload 5, 2) := by decide +kernel
theorem dM_event3_154 : decode mM_event3.2.1 154 = .ok (.iconst 5, 1) := by decide +kernel
theorem dM_event3_155 : decode mM_event3.2.1 155 = .ok (.iadd, 1) := by decide +kernel
theorem dM_event3_156 : decode mM_event3.2.1 156 = .ok (.aload_n 0, 1) := by decide +kernel
theorem dM_event3_157 : decode mM_event3.2.1 157 = .ok (.getfield 9, 3) := by decide +kernel
theorem dM_event3_160 : decode mM_event3.2.1 160 = .ok (.iconst 0, 1) := by decide +kernel
theorem dM_event3_161 : decode mM_event3.2.1 161 = .ok (.iaload, 1) := by decide +kernel
theorem dM_event3_162 : decode mM_event3.2.1 162 = .ok (.iastore, 1) := by decide +kernel
theorem dM_event3_163 : decode mM_event3.2.1 163 = .ok (.aload_n 0, 1) := by decide +kernel
theorem dM_event3_164 : decode mM_event3.2.1 164 = .ok (.getfield 9, 3) := by decide +kernel
theorem dM_event3_167 : decode mM_event3.2.1 167 = .ok (.iload 5, 2) := by decide +kernel
theorem dM_event3_169 : decode mM_event3.2.1 169 = .ok (.bipush 6, 2) := by decide +kernel
theorem dM_event3_171 : decode mM_event3.2.1 171 = .ok (.iadd, 1) := by decide +kernel
theorem dM_event3_172 : decode mM_event3.2.1 172 = .ok (.iconst (-1), 1) := by decide +kernel
theorem dM_event3_173 : decode mM_event3.2.1 173 = .ok (.iastore, 1) := by decide +kernel
theorem dM_event3_174 : decode mM_event3.2.1 174 = .ok (.aload_n 0, 1) := by decide +kernel
theorem dM_event3_175 : decode mM_event3.2.1 175 = .ok (.getfield 9, 3) := by decide +kernel
theorem dM_event3_178 : decode mM_event3.2.1 178 = .ok (.iconst 4, 1) := by decide +kernel
theorem dM_event3_179 : decode mM_event3.2.1 179 = .ok (.dup2, 1) := by decide +kernel
theorem dM_event3_180 : decode mM_event3.2.1 180 = .ok (.iaload, 1) := by decide +kernel
theorem dM_event3_181 : decode mM_event3.2.1 181 = .ok (.iconst 1, 1) := by decide +kernel
theorem dM_event3_182 : decode mM_event3.2.1 182 = .ok (.iadd, 1) := by decide +kernel
theorem dM_event3_183 : decode mM_event3.2.1 183 = .ok (.iastore, 1) := by decide +kernel
theorem dM_event3_184 : decode mM_event3.2.1 184 = .ok (.iload 4, 2) := by decide +kernel
theorem dM_event3_186 : decode mM_event3.2.1 186 = .ok (.ireturn, 1) := by decide +kernel
theorem dM_notice_0 : decode mM_notice.2.1 0 = .ok (.aload_n 0, 1) := by decide +kernel
theorem dM_notice_1 : decode mM_notice.2.1 1 = .ok (.iload_n 1, 1) := by decide +kernel
theorem dM_notice_2 : decode mM_notice.2.1 2 = .ok (.iconst 4, 1) := by decide +kernel
theorem dM_notice_3 : decode mM_notice.2.1 3 = .ok (.invokevirtual 84, 3) := by decide +kernel
theorem dM_notice_6 : decode mM_notice.2.1 6 = .ok (.ifCond .eq 25, 3) := by decide +kernel
theorem dM_notice_9 : decode mM_notice.2.1 9 = .ok (.iload_n 2, 1) := by decide +kernel
theorem dM_notice_10 : decode mM_notice.2.1 10 = .ok (.i2l, 1) := by decide +kernel
theorem dM_notice_11 : decode mM_notice.2.1 11 = .ok (.aload_n 0, 1) := by decide +kernel
theorem dM_notice_12 : decode mM_notice.2.1 12 = .ok (.iload_n 1, 1) := by decide +kernel
theorem dM_notice_13 : decode mM_notice.2.1 13 = .ok (.iconst 2, 1) := by decide +kernel
theorem dM_notice_14 : decode mM_notice.2.1 14 = .ok (.invokevirtual 123, 3) := by decide +kernel
theorem dM_notice_17 : decode mM_notice.2.1 17 = .ok (.i2l, 1) := by decide +kernel
theorem dM_notice_18 : decode mM_notice.2.1 18 = .ok (.aload_n 0, 1) := by decide +kernel
theorem dM_notice_19 : decode mM_notice.2.1 19 = .ok (.getfield 9, 3) := by decide +kernel
theorem dM_notice_22 : decode mM_notice.2.1 22 = .ok (.iconst 0, 1) := by decide +kernel
theorem dM_notice_23 : decode mM_notice.2.1 23 = .ok (.iaload, 1) := by decide +kernel
theorem dM_notice_24 : decode mM_notice.2.1 24 = .ok (.i2l, 1) := by decide +kernel
theorem dM_notice_25 : decode mM_notice.2.1 25 = .ok (.invokestatic 68, 3) := by decide +kernel
theorem dM_notice_28 : decode mM_notice.2.1 28 = .ok (.ifCond .ne 10, 3) := by decide +kernel
theorem dM_notice_31 : decode mM_notice.2.1 31 = .ok (.aload_n 0, 1) := by decide +kernel
theorem dM_notice_32 : decode mM_notice.2.1 32 = .ok (.ldc 78, 2) := by decide +kernel
theorem dM_notice_34 : decode mM_notice.2.1 34 = .ok (.invokevirtual 79, 3) := by decide +kernel
theorem dM_notice_37 : decode mM_notice.2.1 37 = .ok (.ireturn, 1) := by decide +kernel
theorem dM_notice_38 : decode mM_notice.2.1 38 = .ok (.aload_n 0, 1) := by decide +kernel
theorem dM_notice_39 : decode mM_notice.2.1 39 = .ok (.iload_n 1, 1) := by decide +kernel
theorem dM_notice_40 : decode mM_notice.2.1 40 = .ok (.iconst 4, 1) := by decide +kernel
theorem dM_notice_41 : decode mM_notice.2.1 41 = .ok (.invokevirtual 123, 3) := by decide +kernel
theorem dM_notice_44 : decode mM_notice.2.1 44 = .ok (.ifCond .lt 10, 3) := by decide +kernel
theorem dM_notice_47 : decode mM_notice.2.1 47 = .ok (.aload_n 0, 1) := by decide +kernel
theorem dM_notice_48 : decode mM_notice.2.1 48 = .ok (.ldc 101, 2) := by decide +kernel
theorem dM_notice_50 : decode mM_notice.2.1 50 = .ok (.invokevirtual 79, 3) := by decide +kernel
theorem dM_notice_53 : decode mM_notice.2.1 53 = .ok (.ireturn, 1) := by decide +kernel
theorem dM_notice_54 : decode mM_notice.2.1 54 = .ok (.aload_n 0, 1) := by decide +kernel
theorem dM_notice_55 : decode mM_notice.2.1 55 = .ok (.getfield 9, 3) := by decide +kernel
theorem dM_notice_58 : decode mM_notice.2.1 58 = .ok (.sipush 148, 3) := by decide +kernel
theorem dM_notice_61 : decode mM_notice.2.1 61 = .ok (.bipush 7, 2) := by decide +kernel
theorem dM_notice_63 : decode mM_notice.2.1 63 = .ok (.iload_n 1, 1) := by decide +kernel
theorem dM_notice_64 : decode mM_notice.2.1 64 = .ok (.imul, 1) := by decide +kernel
theorem dM_notice_65 : decode mM_notice.2.1 65 = .ok (.iadd, 1) := by decide +kernel
theorem dM_notice_66 : decode mM_notice.2.1 66 = .ok (.iconst 4, 1) := by decide +kernel
theorem dM_notice_67 : decode mM_notice.2.1 67 = .ok (.iadd, 1) := by decide +kernel
theorem dM_notice_68 : decode mM_notice.2.1 68 = .ok (.iload_n 2, 1) := by decide +kernel
theorem dM_notice_69 : decode mM_notice.2.1 69 = .ok (.iastore, 1) := by decide +kernel
theorem dM_notice_70 : decode mM_notice.2.1 70 = .ok (.iconst 1, 1) := by decide +kernel
theorem dM_notice_71 : decode mM_notice.2.1 71 = .ok (.ireturn, 1) := by decide +kernel
theorem dM_event2_0 : decode mM_event2.2.1 0 = .ok (.aload_n 0, 1) := by decide +kernel
theorem dM_event2_1 : decode mM_event2.2.1 1 = .ok (.getfield 9, 3) := by decide +kernel
theorem dM_event2_4 : decode mM_event2.2.1 4 = .ok (.sipush 148, 3) := by decide +kernel
theorem dM_event2_7 : decode mM_event2.2.1 7 = .ok (.bipush 7, 2) := by decide +kernel
theorem dM_event2_9 : decode mM_event2.2.1 9 = .ok (.iload_n 1, 1) := by decide +kernel
theorem dM_event2_10 : decode mM_event2.2.1 10 = .ok (.imul, 1) := by decide +kernel
theorem dM_event2_11 : decode mM_event2.2.1 11 = .ok (.iadd, 1) := by decide +kernel
theorem dM_event2_12 : decode mM_event2.2.1 12 = .ok (.iload_n 2, 1) := by decide +kernel
theorem dM_event2_13 : decode mM_event2.2.1 13 = .ok (.iadd, 1) := by decide +kernel
theorem dM_event2_14 : decode mM_event2.2.1 14 = .ok (.iaload, 1) := by decide +kernel
theorem dM_event2_15 : decode mM_event2.2.1 15 = .ok (.ireturn, 1) := by decide +kernel
theorem dM_back_0 : decode mM_back.2.1 0 = .ok (.aload_n 0, 1) := by decide +kernel
theorem dM_back_1 : decode mM_back.2.1 1 = .ok (.iload_n 1, 1) := by decide +kernel
theorem dM_back_2 : decode mM_back.2.1 2 = .ok (.iconst 4, 1) := by decide +kernel
theorem dM_back_3 : decode mM_back.2.1 3 = .ok (.invokevirtual 84, 3) := by decide +kernel
theorem dM_back_6 : decode mM_back.2.1 6 = .ok (.ifCond .ne 10, 3) := by decide +kernel
theorem dM_back_9 : decode mM_back.2.1 9 = .ok (.aload_n 0, 1) := by decide +kernel
theorem dM_back_10 : decode mM_back.2.1 10 = .ok (.ldc 78, 2) := by decide +kernel
theorem dM_back_12 : decode mM_back.2.1 12 = .ok (.invokevirtual 79, 3) := by decide +kernel
theorem dM_back_15 : decode mM_back.2.1 15 = .ok (.ireturn, 1) := by decide +kernel
theorem dM_back_16 : decode mM_back.2.1 16 = .ok (.aload_n 0, 1) := by decide +kernel
theorem dM_back_17 : decode mM_back.2.1 17 = .ok (.iload_n 1, 1) := by decide +kernel
theorem dM_back_18 : decode mM_back.2.1 18 = .ok (.bipush 6, 2) := by decide +kernel
theorem dM_back_20 : decode mM_back.2.1 20 = .ok (.invokevirtual 123, 3) := by decide +kernel
theorem dM_back_23 : decode mM_back.2.1 23 = .ok (.ifCond .ge 18, 3) := by decide +kernel
theorem dM_back_26 : decode mM_back.2.1 26 = .ok (.aload_n 0, 1) := by decide +kernel
theorem dM_back_27 : decode mM_back.2.1 27 = .ok (.iload_n 1, 1) := by decide +kernel
theorem dM_back_28 : decode mM_back.2.1 28 = .ok (.iconst 5, 1) := by decide +kernel
theorem dM_back_29 : decode mM_back.2.1 29 = .ok (.invokevirtual 123, 3) := by decide +kernel
theorem dM_back_32 : decode mM_back.2.1 32 = .ok (.aload_n 0, 1) := by decide +kernel
theorem dM_back_33 : decode mM_back.2.1 33 = .ok (.getfield 9, 3) := by decide +kernel
theorem dM_back_36 : decode mM_back.2.1 36 = .ok (.iconst 0, 1) := by decide +kernel
theorem dM_back_37 : decode mM_back.2.1 37 = .ok (.iaload, 1) := by decide +kernel
theorem dM_back_38 : decode mM_back.2.1 38 = .ok (.if_icmp .ne 10, 3) := by decide +kernel
theorem dM_back_41 : decode mM_back.2.1 41 = .ok (.aload_n 0, 1) := by decide +kernel
theorem dM_back_42 : decode mM_back.2.1 42 = .ok (.ldc 101, 2) := by decide +kernel
theorem dM_back_44 : decode mM_back.2.1 44 = .ok (.invokevirtual 79, 3) := by decide +kernel
theorem dM_back_47 : decode mM_back.2.1 47 = .ok (.ireturn, 1) := by decide +kernel
theorem dM_back_48 : decode mM_back.2.1 48 = .ok (.aload_n 0, 1) := by decide +kernel
theorem dM_back_49 : decode mM_back.2.1 49 = .ok (.getfield 9, 3) := by decide +kernel
theorem dM_back_52 : decode mM_back.2.1 52 = .ok (.sipush 148, 3) := by decide +kernel
theorem dM_back_55 : decode mM_back.2.1 55 = .ok (.bipush 7, 2) := by decide +kernel
theorem dM_back_57 : decode mM_back.2.1 57 = .ok (.iload_n 1, 1) := by decide +kernel
theorem dM_back_58 : decode mM_back.2.1 58 = .ok (.imul, 1) := by decide +kernel
theorem dM_back_59 : decode mM_back.2.1 59 = .ok (.iadd, 1) := by decide +kernel
theorem dM_back_60 : decode mM_back.2.1 60 = .ok (.bipush 6, 2) := by decide +kernel
theorem dM_back_62 : decode mM_back.2.1 62 = .ok (.iadd, 1) := by decide +kernel
theorem dM_back_63 : decode mM_back.2.1 63 = .ok (.aload_n 0, 1) := by decide +kernel
theorem dM_back_64 : decode mM_back.2.1 64 = .ok (.getfield 9, 3) := by decide +kernel
theorem dM_back_67 : decode mM_back.2.1 67 = .ok (.iconst 0, 1) := by decide +kernel
theorem dM_back_68 : decode mM_back.2.1 68 = .ok (.iaload, 1) := by decide +kernel
theorem dM_back_69 : decode mM_back.2.1 69 = .ok (.iastore, 1) := by decide +kernel
theorem dM_back_70 : decode mM_back.2.1 70 = .ok (.iconst 1, 1) := by decide +kernel
theorem dM_back_71 : decode mM_back.2.1 71 = .ok (.ireturn, 1) := by decide +kernel
theorem dM_of_0 : decode mM_of.2.1 0 = .ok (.aload_n 0, 1) := by decide +kernel
theorem dM_of_1 : decode mM_of.2.1 1 = .ok (.iload_n 1, 1) := by decide +kernel
theorem dM_of_2 : decode mM_of.2.1 2 = .ok (.iconst 4, 1) := by decide +kernel
theorem dM_of_3 : decode mM_of.2.1 3 = .ok (.invokevirtual 84, 3) := by decide +kernel
theorem dM_of_6 : decode mM_of.2.1 6 = .ok (.ifCond .eq 15, 3) := by decide +kernel
theorem dM_of_9 : decode mM_of.2.1 9 = .ok (.iload_n 2, 1) := by decide +kernel
theorem dM_of_10 : decode mM_of.2.1 10 = .ok (.i2l, 1) := by decide +kernel
theorem dM_of_11 : decode mM_of.2.1 11 = .ok (.lconst 0, 1) := by decide +kernel
theorem dM_of_12 : decode mM_of.2.1 12 = .ok (.ldc2_w 126, 3) := by decide +kernel
theorem dM_of_15 : decode mM_of.2.1 15 = .ok (.invokestatic 68, 3) := by decide +kernel
theorem dM_of_18 : decode mM_of.2.1 18 = .ok (.ifCond .ne 12, 3) := by decide +kernel
theorem dM_of_21 : decode mM_of.2.1 21 = .ok (.aload_n 0, 1) := by decide +kernel
theorem dM_of_22 : decode mM_of.2.1 22 = .ok (.ldc 78, 2) := by decide +kernel
theorem dM_of_24 : decode mM_of.2.1 24 = .ok (.invokevirtual 79, 3) := by decide +kernel
theorem dM_of_27 : decode mM_of.2.1 27 = .ok (.goto 9, 3) := by decide +kernel
theorem dM_of_30 : decode mM_of.2.1 30 = .ok (.aload_n 0, 1) := by decide +kernel
theorem dM_of_31 : decode mM_of.2.1 31 = .ok (.iload_n 1, 1) := by decide +kernel
theorem dM_of_32 : decode mM_of.2.1 32 = .ok (.iload_n 2, 1) := by decide +kernel
theorem dM_of_33 : decode mM_of.2.1 33 = .ok (.invokevirtual 123, 3) := by decide +kernel
theorem dM_of_36 : decode mM_of.2.1 36 = .ok (.ireturn, 1) := by decide +kernel
theorem dM_known_0 : decode mM_known.2.1 0 = .ok (.iload_n 1, 1) := by decide +kernel
theorem dM_known_1 : decode mM_known.2.1 1 = .ok (.invokestatic 128, 3) := by decide +kernel
theorem dM_known_4 : decode mM_known.2.1 4 = .ok (.ifCond .eq 11, 3) := by decide +kernel
theorem dM_known_7 : decode mM_known.2.1 7 = .ok (.aload_n 0, 1) := by decide +kernel
theorem dM_known_8 : decode mM_known.2.1 8 = .ok (.iload_n 1, 1) := by decide +kernel
theorem dM_known_9 : decode mM_known.2.1 9 = .ok (.invokevirtual 132, 3) := by decide +kernel
theorem dM_known_12 : decode mM_known.2.1 12 = .ok (.goto 9, 3) := by decide +kernel
theorem dM_known_15 : decode mM_known.2.1 15 = .ok (.aload_n 0, 1) := by decide +kernel
theorem dM_known_16 : decode mM_known.2.1 16 = .ok (.ldc 78, 2) := by decide +kernel
theorem dM_known_18 : decode mM_known.2.1 18 = .ok (.invokevirtual 79, 3) := by decide +kernel
theorem dM_known_21 : decode mM_known.2.1 21 = .ok (.ireturn, 1) := by decide +kernel
theorem dM_isDay_0 : decode mM_isDay.2.1 0 = .ok (.iload_n 0, 1) := by decide +kernel
theorem dM_isDay_1 : decode mM_isDay.2.1 1 = .ok (.i2l, 1) := by decide +kernel
theorem dM_isDay_2 : decode mM_isDay.2.1 2 = .ok (.lconst 0, 1) := by decide +kernel
theorem dM_isDay_3 : decode mM_isDay.2.1 3 = .ok (.ldc2_w 119, 3) := by decide +kernel
theorem dM_isDay_6 : decode mM_isDay.2.1 6 = .ok (.invokestatic 68, 3) := by decide +kernel
theorem dM_isDay_9 : decode mM_isDay.2.1 9 = .ok (.ireturn, 1) := by decide +kernel
theorem dM_knownOn_0 : decode mM_knownOn.2.1 0 = .ok (.iconst 0, 1) := by decide +kernel
theorem dM_knownOn_1 : decode mM_knownOn.2.1 1 = .ok (.istore_n 2, 1) := by decide +kernel
theorem dM_knownOn_2 : decode mM_knownOn.2.1 2 = .ok (.iconst 0, 1) := by decide +kernel
theorem dM_knownOn_3 : decode mM_knownOn.2.1 3 = .ok (.istore_n 3, 1) := by decide +kernel
theorem dM_knownOn_4 : decode mM_knownOn.2.1 4 = .ok (.iload_n 3, 1) := by decide +kernel
theorem dM_knownOn_5 : decode mM_knownOn.2.1 5 = .ok (.aload_n 0, 1) := by decide +kernel
theorem dM_knownOn_6 : decode mM_knownOn.2.1 6 = .ok (.getfield 9, 3) := by decide +kernel
theorem dM_knownOn_9 : decode mM_knownOn.2.1 9 = .ok (.iconst 4, 1) := by decide +kernel
theorem dM_knownOn_10 : decode mM_knownOn.2.1 10 = .ok (.iaload, 1) := by decide +kernel
theorem dM_knownOn_11 : decode mM_knownOn.2.1 11 = .ok (.if_icmp .ge 62, 3) := by decide +kernel
theorem dM_knownOn_14 : decode mM_knownOn.2.1 14 = .ok (.aload_n 0, 1) := by decide +kernel
theorem dM_knownOn_15 : decode mM_knownOn.2.1 15 = .ok (.iload_n 3, 1) := by decide +kernel
theorem dM_knownOn_16 : decode mM_knownOn.2.1 16 = .ok (.bipush 6, 2) := by decide +kernel
theorem dM_knownOn_18 : decode mM_knownOn.2.1 18 = .ok (.invokevirtual 123, 3) := by decide +kernel
theorem dM_knownOn_21 : decode mM_knownOn.2.1 21 = .ok (.ifCond .lt 18, 3) := by decide +kernel
theorem dM_knownOn_24 : decode mM_knownOn.2.1 24 = .ok (.aload_n 0, 1) := by decide +kernel
theorem dM_knownOn_25 : decode mM_knownOn.2.1 25 = .ok (.iload_n 3, 1) := by decide +kernel
theorem dM_knownOn_26 : decode mM_knownOn.2.1 26 = .ok (.bipush 6, 2) := by decide +kernel
theorem dM_knownOn_28 : decode mM_knownOn.2.1 28 = .ok (.invokevirtual 123, 3) := by decide +kernel
theorem dM_knownOn_31 : decode mM_knownOn.2.1 31 = .ok (.iload_n 1, 1) := by decide +kernel
theorem dM_knownOn_32 : decode mM_knownOn.2.1 32 = .ok (.if_icmp .gt 7, 3) := by decide +kernel
theorem dM_knownOn_35 : decode mM_knownOn.2.1 35 = .ok (.iconst 1, 1) := by decide +kernel
theorem dM_knownOn_36 : decode mM_knownOn.2.1 36 = .ok (.goto 4, 3) := by decide +kernel
theorem dM_knownOn_39 : decode mM_knownOn.2.1 39 = .ok (.iconst 0, 1) := by decide +kernel
theorem dM_knownOn_40 : decode mM_knownOn.2.1 40 = .ok (.istore 4, 2) := by decide +kernel
theorem dM_knownOn_42 : decode mM_knownOn.2.1 42 = .ok (.iload_n 2, 1) := by decide +kernel
theorem dM_knownOn_43 : decode mM_knownOn.2.1 43 = .ok (.aload_n 0, 1) := by decide +kernel
theorem dM_knownOn_44 : decode mM_knownOn.2.1 44 = .ok (.iload_n 3, 1) := by decide +kernel
theorem dM_knownOn_45 : decode mM_knownOn.2.1 45 = .ok (.iconst 5, 1) := by decide +kernel
theorem dM_knownOn_46 : decode mM_knownOn.2.1 46 = .ok (.invokevirtual 123, 3) := by decide +kernel
theorem dM_knownOn_49 : decode mM_knownOn.2.1 49 = .ok (.iload_n 1, 1) := by decide +kernel
theorem dM_knownOn_50 : decode mM_knownOn.2.1 50 = .ok (.if_icmp .gt 14, 3) := by decide +kernel
theorem dM_knownOn_53 : decode mM_knownOn.2.1 53 = .ok (.iload 4, 2) := by decide +kernel
theorem dM_knownOn_55 : decode mM_knownOn.2.1 55 = .ok (.ifCond .ne 9, 3) := by decide +kernel
theorem dM_knownOn_58 : decode mM_knownOn.2.1 58 = .ok (.iconst 1, 1) := by decide +kernel
theorem dM_knownOn_59 : decode mM_knownOn.2.1 59 = .ok (.iload_n 3, 1) := by decide +kernel
theorem dM_knownOn_60 : decode mM_knownOn.2.1 60 = .ok (.ishl, 1) := by decide +kernel
theorem dM_knownOn_61 : decode mM_knownOn.2.1 61 = .ok (.goto 4, 3) := by decide +kernel
theorem dM_knownOn_64 : decode mM_knownOn.2.1 64 = .ok (.iconst 0, 1) := by decide +kernel
theorem dM_knownOn_65 : decode mM_knownOn.2.1 65 = .ok (.ior, 1) := by decide +kernel
theorem dM_knownOn_66 : decode mM_knownOn.2.1 66 = .ok (.istore_n 2, 1) := by decide +kernel
theorem dM_knownOn_67 : decode mM_knownOn.2.1 67 = .ok (.iinc 3 1, 3) := by decide +kernel
theorem dM_knownOn_70 : decode mM_knownOn.2.1 70 = .ok (.goto (-66), 3) := by decide +kernel
theorem dM_knownOn_73 : decode mM_knownOn.2.1 73 = .ok (.iload_n 2, 1) := by decide +kernel
theorem dM_knownOn_74 : decode mM_knownOn.2.1 74 = .ok (.ireturn, 1) := by decide +kernel
theorem dM_plan_0 : decode mM_plan.2.1 0 = .ok (.aload_n 0, 1) := by decide +kernel
theorem dM_plan_1 : decode mM_plan.2.1 1 = .ok (.iload_n 1, 1) := by decide +kernel
theorem dM_plan_2 : decode mM_plan.2.1 2 = .ok (.invokevirtual 168, 3) := by decide +kernel
theorem dM_plan_5 : decode mM_plan.2.1 5 = .ok (.ifCond .eq 24, 3) := by decide +kernel
theorem dM_plan_8 : decode mM_plan.2.1 8 = .ok (.aload_n 0, 1) := by decide +kernel
theorem dM_plan_9 : decode mM_plan.2.1 9 = .ok (.iload_n 2, 1) := by decide +kernel
theorem dM_plan_10 : decode mM_plan.2.1 10 = .ok (.iconst 2, 1) := by decide +kernel
theorem dM_plan_11 : decode mM_plan.2.1 11 = .ok (.invokevirtual 84, 3) := by decide +kernel
theorem dM_plan_14 : decode mM_plan.2.1 14 = .ok (.ifCond .eq 15, 3) := by decide +kernel
theorem dM_plan_17 : decode mM_plan.2.1 17 = .ok (.iload_n 3, 1) := by decide +kernel
theorem dM_plan_18 : decode mM_plan.2.1 18 = .ok (.i2l, 1) := by decide +kernel
theorem dM_plan_19 : decode mM_plan.2.1 19 = .ok (.lconst 0, 1) := by decide +kernel
theorem dM_plan_20 : decode mM_plan.2.1 20 = .ok (.ldc2_w 171, 3) := by decide +kernel
theorem dM_plan_23 : decode mM_plan.2.1 23 = .ok (.invokestatic 68, 3) := by decide +kernel
theorem dM_plan_26 : decode mM_plan.2.1 26 = .ok (.ifCond .ne 10, 3) := by decide +kernel
theorem dM_plan_29 : decode mM_plan.2.1 29 = .ok (.aload_n 0, 1) := by decide +kernel
theorem dM_plan_30 : decode mM_plan.2.1 30 = .ok (.ldc 78, 2) := by decide +kernel
theorem dM_plan_32 : decode mM_plan.2.1 32 = .ok (.invokevirtual 79, 3) := by decide +kernel
theorem dM_plan_35 : decode mM_plan.2.1 35 = .ok (.ireturn, 1) := by decide +kernel
theorem dM_plan_36 : decode mM_plan.2.1 36 = .ok (.iload_n 3, 1) := by decide +kernel
theorem dM_plan_37 : decode mM_plan.2.1 37 = .ok (.iconst 2, 1) := by decide +kernel
theorem dM_plan_38 : decode mM_plan.2.1 38 = .ok (.if_icmp .ne 10, 3) := by decide +kernel
theorem dM_plan_41 : decode mM_plan.2.1 41 = .ok (.aload_n 0, 1) := by decide +kernel
theorem dM_plan_42 : decode mM_plan.2.1 42 = .ok (.iload_n 1, 1) := by decide +kernel
theorem dM_plan_43 : decode mM_plan.2.1 43 = .ok (.iload_n 2, 1) := by decide +kernel
theorem dM_plan_44 : decode mM_plan.2.1 44 = .ok (.invokevirtual 165, 3) := by decide +kernel
theorem dM_plan_47 : decode mM_plan.2.1 47 = .ok (.ireturn, 1) := by decide +kernel
theorem dM_plan_48 : decode mM_plan.2.1 48 = .ok (.aload_n 0, 1) := by decide +kernel
theorem dM_plan_49 : decode mM_plan.2.1 49 = .ok (.iload_n 1, 1) := by decide +kernel
theorem dM_plan_50 : decode mM_plan.2.1 50 = .ok (.invokevirtual 162, 3) := by decide +kernel
theorem dM_plan_53 : decode mM_plan.2.1 53 = .ok (.istore 4, 2) := by decide +kernel
theorem dM_plan_55 : decode mM_plan.2.1 55 = .ok (.iload_n 3, 1) := by decide +kernel
theorem dM_plan_56 : decode mM_plan.2.1 56 = .ok (.ifCond .ne 12, 3) := by decide +kernel
theorem dM_plan_59 : decode mM_plan.2.1 59 = .ok (.aload_n 0, 1) := by decide +kernel
theorem dM_plan_60 : decode mM_plan.2.1 60 = .ok (.getfield 34, 3) := by decide +kernel
theorem dM_plan_63 : decode mM_plan.2.1 63 = .ok (.iload_n 2, 1) := by decide +kernel
theorem dM_plan_64 : decode mM_plan.2.1 64 = .ok (.iaload, 1) := by decide +kernel
theorem dM_plan_65 : decode mM_plan.2.1 65 = .ok (.goto 9, 3) := by decide +kernel
theorem dM_plan_68 : decode mM_plan.2.1 68 = .ok (.aload_n 0, 1) := by decide +kernel
theorem dM_plan_69 : decode mM_plan.2.1 69 = .ok (.getfield 37, 3) := by decide +kernel
theorem dM_plan_72 : decode mM_plan.2.1 72 = .ok (.iload_n 2, 1) := by decide +kernel
theorem dM_plan_73 : decode mM_plan.2.1 73 = .ok (.iaload, 1) := by decide +kernel
theorem dM_plan_74 : decode mM_plan.2.1 74 = .ok (.ireturn, 1) := by decide +kernel
theorem dM_areEvents_0 : decode mM_areEvents.2.1 0 = .ok (.iload_n 1, 1) := by decide +kernel
theorem dM_areEvents_1 : decode mM_areEvents.2.1 1 = .ok (.i2l, 1) := by decide +kernel
theorem dM_areEvents_2 : decode mM_areEvents.2.1 2 = .ok (.lconst 0, 1) := by decide +kernel
theorem dM_areEvents_3 : decode mM_areEvents.2.1 3 = .ok (.lconst 1, 1) := by decide +kernel
theorem dM_areEvents_4 : decode mM_areEvents.2.1 4 = .ok (.aload_n 0, 1) := by decide +kernel
theorem dM_areEvents_5 : decode mM_areEvents.2.1 5 = .ok (.getfield 9, 3) := by decide +kernel
theorem dM_areEvents_8 : decode mM_areEvents.2.1 8 = .ok (.iconst 4, 1) := by decide +kernel
theorem dM_areEvents_9 : decode mM_areEvents.2.1 9 = .ok (.iaload, 1) := by decide +kernel
theorem dM_areEvents_10 : decode mM_areEvents.2.1 10 = .ok (.lshl, 1) := by decide +kernel
theorem dM_areEvents_11 : decode mM_areEvents.2.1 11 = .ok (.lconst 1, 1) := by decide +kernel
theorem dM_areEvents_12 : decode mM_areEvents.2.1 12 = .ok (.lsub, 1) := by decide +kernel
theorem dM_areEvents_13 : decode mM_areEvents.2.1 13 = .ok (.invokestatic 68, 3) := by decide +kernel
theorem dM_areEvents_16 : decode mM_areEvents.2.1 16 = .ok (.ireturn, 1) := by decide +kernel
theorem dM_slackOf_0 : decode mM_slackOf.2.1 0 = .ok (.aload_n 0, 1) := by decide +kernel
theorem dM_slackOf_1 : decode mM_slackOf.2.1 1 = .ok (.iload_n 1, 1) := by decide +kernel
theorem dM_slackOf_2 : decode mM_slackOf.2.1 2 = .ok (.invokevirtual 162, 3) := by decide +kernel
theorem dM_slackOf_5 : decode mM_slackOf.2.1 5 = .ok (.istore_n 3, 1) := by decide +kernel
theorem dM_slackOf_6 : decode mM_slackOf.2.1 6 = .ok (.aload_n 0, 1) := by decide +kernel
theorem dM_slackOf_7 : decode mM_slackOf.2.1 7 = .ok (.getfield 31, 3) := by decide +kernel
theorem dM_slackOf_10 : decode mM_slackOf.2.1 10 = .ok (.iload_n 2, 1) := by decide +kernel
theorem dM_slackOf_11 : decode mM_slackOf.2.1 11 = .ok (.iaload, 1) := by decide +kernel
theorem dM_slackOf_12 : decode mM_slackOf.2.1 12 = .ok (.istore 4, 2) := by decide +kernel
theorem dM_slackOf_14 : decode mM_slackOf.2.1 14 = .ok (.iconst 0, 1) := by decide +kernel
theorem dM_slackOf_15 : decode mM_slackOf.2.1 15 = .ok (.istore 5, 2) := by decide +kernel
theorem dM_slackOf_17 : decode mM_slackOf.2.1 17 = .ok (.bipush 100, 2) := by decide +kernel
theorem dM_slackOf_19 : decode mM_slackOf.2.1 19 = .ok (.istore 6, 2) := by decide +kernel
theorem dM_slackOf_21 : decode mM_slackOf.2.1 21 = .ok (.iload 6, 2) := by decide +kernel
theorem dM_slackOf_23 : decode mM_slackOf.2.1 23 = .ok (.iload 5, 2) := by decide +kernel
theorem dM_slackOf_25 : decode mM_slackOf.2.1 25 = .ok (.isub, 1) := by decide +kernel
theorem dM_slackOf_26 : decode mM_slackOf.2.1 26 = .ok (.iconst 1, 1) := by decide +kernel
theorem dM_slackOf_27 : decode mM_slackOf.2.1 27 = .ok (.if_icmp .le 45, 3) := by decide +kernel
theorem dM_slackOf_30 : decode mM_slackOf.2.1 30 = .ok (.iload 5, 2) := by decide +kernel
theorem dM_slackOf_32 : decode mM_slackOf.2.1 32 = .ok (.iload 6, 2) := by decide +kernel
theorem dM_slackOf_34 : decode mM_slackOf.2.1 34 = .ok (.iadd, 1) := by decide +kernel
theorem dM_slackOf_35 : decode mM_slackOf.2.1 35 = .ok (.iconst 2, 1) := by decide +kernel
theorem dM_slackOf_36 : decode mM_slackOf.2.1 36 = .ok (.idiv, 1) := by decide +kernel
theorem dM_slackOf_37 : decode mM_slackOf.2.1 37 = .ok (.istore 7, 2) := by decide +kernel
theorem dM_slackOf_39 : decode mM_slackOf.2.1 39 = .ok (.aload_n 0, 1) := by decide +kernel
theorem dM_slackOf_40 : decode mM_slackOf.2.1 40 = .ok (.getfield 31, 3) := by decide +kernel
theorem dM_slackOf_43 : decode mM_slackOf.2.1 43 = .ok (.iload_n 2, 1) := by decide +kernel
theorem dM_slackOf_44 : decode mM_slackOf.2.1 44 = .ok (.iload 4, 2) := by decide +kernel
theorem dM_slackOf_46 : decode mM_slackOf.2.1 46 = .ok (.iload 7, 2) := by decide +kernel
theorem dM_slackOf_48 : decode mM_slackOf.2.1 48 = .ok (.iadd, 1) := by decide +kernel
theorem dM_slackOf_49 : decode mM_slackOf.2.1 49 = .ok (.iastore, 1) := by decide +kernel
theorem dM_slackOf_50 : decode mM_slackOf.2.1 50 = .ok (.aload_n 0, 1) := by decide +kernel
theorem dM_slackOf_51 : decode mM_slackOf.2.1 51 = .ok (.invokevirtual 158, 3) := by decide +kernel
theorem dM_slackOf_54 : decode mM_slackOf.2.1 54 = .ok (.iload_n 3, 1) := by decide +kernel
theorem dM_slackOf_55 : decode mM_slackOf.2.1 55 = .ok (.if_icmp .ne 10, 3) := by decide +kernel
theorem dM_slackOf_58 : decode mM_slackOf.2.1 58 = .ok (.iload 7, 2) := by decide +kernel
theorem dM_slackOf_60 : decode mM_slackOf.2.1 60 = .ok (.istore 5, 2) := by decide +kernel
theorem dM_slackOf_62 : decode mM_slackOf.2.1 62 = .ok (.goto 7, 3) := by decide +kernel
theorem dM_slackOf_65 : decode mM_slackOf.2.1 65 = .ok (.iload 7, 2) := by decide +kernel
theorem dM_slackOf_67 : decode mM_slackOf.2.1 67 = .ok (.istore 6, 2) := by decide +kernel
theorem dM_slackOf_69 : decode mM_slackOf.2.1 69 = .ok (.goto (-48), 3) := by decide +kernel
theorem dM_slackOf_72 : decode mM_slackOf.2.1 72 = .ok (.iload 5, 2) := by decide +kernel
theorem dM_slackOf_74 : decode mM_slackOf.2.1 74 = .ok (.ireturn, 1) := by decide +kernel
theorem dM_endBy_0 : decode mM_endBy.2.1 0 = .ok (.aload_n 0, 1) := by decide +kernel
theorem dM_endBy_1 : decode mM_endBy.2.1 1 = .ok (.iload_n 1, 1) := by decide +kernel
theorem dM_endBy_2 : decode mM_endBy.2.1 2 = .ok (.invokevirtual 154, 3) := by decide +kernel
theorem dM_endBy_5 : decode mM_endBy.2.1 5 = .ok (.aload_n 0, 1) := by decide +kernel
theorem dM_endBy_6 : decode mM_endBy.2.1 6 = .ok (.invokevirtual 158, 3) := by decide +kernel
theorem dM_endBy_9 : decode mM_endBy.2.1 9 = .ok (.ireturn, 1) := by decide +kernel
theorem dM_needBy_0 : decode mM_needBy.2.1 0 = .ok (.iconst 0, 1) := by decide +kernel
theorem dM_needBy_1 : decode mM_needBy.2.1 1 = .ok (.istore_n 2, 1) := by decide +kernel
theorem dM_needBy_2 : decode mM_needBy.2.1 2 = .ok (.iload_n 2, 1) := by decide +kernel
theorem dM_needBy_3 : decode mM_needBy.2.1 3 = .ok (.aload_n 0, 1) := by decide +kernel
theorem dM_needBy_4 : decode mM_needBy.2.1 4 = .ok (.getfield 9, 3) := by decide +kernel
theorem dM_needBy_7 : decode mM_needBy.2.1 7 = .ok (.iconst 2, 1) := by decide +kernel
theorem dM_needBy_8 : decode mM_needBy.2.1 8 = .ok (.iaload, 1) := by decide +kernel
theorem dM_needBy_9 : decode mM_needBy.2.1 9 = .ok (.if_icmp .ge 16, 3) := by decide +kernel
theorem dM_needBy_12 : decode mM_needBy.2.1 12 = .ok (.aload_n 0, 1) := by decide +kernel
theorem dM_needBy_13 : decode mM_needBy.2.1 13 = .ok (.getfield 31, 3) := by decide +kernel
theorem dM_needBy_16 : decode mM_needBy.2.1 16 = .ok (.iload_n 2, 1) := by decide +kernel
theorem dM_needBy_17 : decode mM_needBy.2.1 17 = .ok (.iconst 0, 1) := by decide +kernel
theorem dM_needBy_18 : decode mM_needBy.2.1 18 = .ok (.iastore, 1) := by decide +kernel
theorem dM_needBy_19 : decode mM_needBy.2.1 19 = .ok (.iinc 2 1, 3) := by decide +kernel
theorem dM_needBy_22 : decode mM_needBy.2.1 22 = .ok (.goto (-20), 3) := by decide +kernel
theorem dM_needBy_25 : decode mM_needBy.2.1 25 = .ok (.iconst 0, 1) := by decide +kernel
theorem dM_needBy_26 : decode mM_needBy.2.1 26 = .ok (.istore_n 2, 1) := by decide +kernel
theorem dM_needBy_27 : decode mM_needBy.2.1 27 = .ok (.iload_n 2, 1) := by decide +kernel
theorem dM_needBy_28 : decode mM_needBy.2.1 28 = .ok (.aload_n 0, 1) := by decide +kernel
theorem dM_needBy_29 : decode mM_needBy.2.1 29 = .ok (.getfield 9, 3) := by decide +kernel
theorem dM_needBy_32 : decode mM_needBy.2.1 32 = .ok (.iconst 4, 1) := by decide +kernel
theorem dM_needBy_33 : decode mM_needBy.2.1 33 = .ok (.iaload, 1) := by decide +kernel
theorem dM_needBy_34 : decode mM_needBy.2.1 34 = .ok (.if_icmp .ge 41, 3) := by decide +kernel
theorem dM_needBy_37 : decode mM_needBy.2.1 37 = .ok (.aload_n 0, 1) := by decide +kernel
theorem dM_needBy_38 : decode mM_needBy.2.1 38 = .ok (.getfield 31, 3) := by decide +kernel
theorem dM_needBy_41 : decode mM_needBy.2.1 41 = .ok (.aload_n 0, 1) := by decide +kernel
theorem dM_needBy_42 : decode mM_needBy.2.1 42 = .ok (.iload_n 2, 1) := by decide +kernel
theorem dM_needBy_43 : decode mM_needBy.2.1 43 = .ok (.iconst 0, 1) := by decide +kernel
theorem dM_needBy_44 : decode mM_needBy.2.1 44 = .ok (.invokevirtual 123, 3) := by decide +kernel
theorem dM_needBy_47 : decode mM_needBy.2.1 47 = .ok (.dup2, 1) := by decide +kernel
theorem dM_needBy_48 : decode mM_needBy.2.1 48 = .ok (.iaload, 1) := by decide +kernel
theorem dM_needBy_49 : decode mM_needBy.2.1 49 = .ok (.iload_n 1, 1) := by decide +kernel
theorem dM_needBy_50 : decode mM_needBy.2.1 50 = .ok (.iload_n 2, 1) := by decide +kernel
theorem dM_needBy_51 : decode mM_needBy.2.1 51 = .ok (.invokestatic 102, 3) := by decide +kernel
theorem dM_needBy_54 : decode mM_needBy.2.1 54 = .ok (.ifCond .eq 12, 3) := by decide +kernel
theorem dM_needBy_57 : decode mM_needBy.2.1 57 = .ok (.aload_n 0, 1) := by decide +kernel
theorem dM_needBy_58 : decode mM_needBy.2.1 58 = .ok (.iload_n 2, 1) := by decide +kernel
theorem dM_needBy_59 : decode mM_needBy.2.1 59 = .ok (.iconst 3, 1) := by decide +kernel
theorem dM_needBy_60 : decode mM_needBy.2.1 60 = .ok (.invokevirtual 123, 3) := by decide +kernel
theorem dM_needBy_63 : decode mM_needBy.2.1 63 = .ok (.goto 4, 3) := by decide +kernel
theorem dM_needBy_66 : decode mM_needBy.2.1 66 = .ok (.iconst 0, 1) := by decide +kernel
theorem dM_needBy_67 : decode mM_needBy.2.1 67 = .ok (.iadd, 1) := by decide +kernel
theorem dM_needBy_68 : decode mM_needBy.2.1 68 = .ok (.iastore, 1) := by decide +kernel
theorem dM_needBy_69 : decode mM_needBy.2.1 69 = .ok (.iinc 2 1, 3) := by decide +kernel
theorem dM_needBy_72 : decode mM_needBy.2.1 72 = .ok (.goto (-45), 3) := by decide +kernel
theorem dM_needBy_75 : decode mM_needBy.2.1 75 = .ok (.return_, 1) := by decide +kernel
theorem dM_goThrough_0 : decode mM_goThrough.2.1 0 = .ok (.aload_n 0, 1) := by decide +kernel
theorem dM_goThrough_1 : decode mM_goThrough.2.1 1 = .ok (.getfield 135, 3) := by decide +kernel
theorem dM_goThrough_4 : decode mM_goThrough.2.1 4 = .ok (.ifCond .ne 7, 3) := by decide +kernel
theorem dM_goThrough_7 : decode mM_goThrough.2.1 7 = .ok (.aload_n 0, 1) := by decide +kernel
theorem dM_goThrough_8 : decode mM_goThrough.2.1 8 = .ok (.invokevirtual 147, 3) := by decide +kernel
theorem dM_goThrough_11 : decode mM_goThrough.2.1 11 = .ok (.iconst 0, 1) := by decide +kernel
theorem dM_goThrough_12 : decode mM_goThrough.2.1 12 = .ok (.istore_n 1, 1) := by decide +kernel
theorem dM_goThrough_13 : decode mM_goThrough.2.1 13 = .ok (.iconst 0, 1) := by decide +kernel
theorem dM_goThrough_14 : decode mM_goThrough.2.1 14 = .ok (.istore_n 2, 1) := by decide +kernel
theorem dM_goThrough_15 : decode mM_goThrough.2.1 15 = .ok (.iload_n 2, 1) := by decide +kernel
theorem dM_goThrough_16 : decode mM_goThrough.2.1 16 = .ok (.aload_n 0, 1) := by decide +kernel
theorem dM_goThrough_17 : decode mM_goThrough.2.1 17 = .ok (.getfield 9, 3) := by decide +kernel
theorem dM_goThrough_20 : decode mM_goThrough.2.1 20 = .ok (.iconst 2, 1) := by decide +kernel
theorem dM_goThrough_21 : decode mM_goThrough.2.1 21 = .ok (.iaload, 1) := by decide +kernel
theorem dM_goThrough_22 : decode mM_goThrough.2.1 22 = .ok (.if_icmp .ge 21, 3) := by decide +kernel
theorem dM_goThrough_25 : decode mM_goThrough.2.1 25 = .ok (.aload_n 0, 1) := by decide +kernel
theorem dM_goThrough_26 : decode mM_goThrough.2.1 26 = .ok (.getfield 34, 3) := by decide +kernel
theorem dM_goThrough_29 : decode mM_goThrough.2.1 29 = .ok (.aload_n 0, 1) := by decide +kernel
theorem dM_goThrough_30 : decode mM_goThrough.2.1 30 = .ok (.getfield 40, 3) := by decide +kernel
theorem dM_goThrough_33 : decode mM_goThrough.2.1 33 = .ok (.iload_n 2, 1) := by decide +kernel
theorem dM_goThrough_34 : decode mM_goThrough.2.1 34 = .ok (.iaload, 1) := by decide +kernel
theorem dM_goThrough_35 : decode mM_goThrough.2.1 35 = .ok (.iconst 0, 1) := by decide +kernel
theorem dM_goThrough_36 : decode mM_goThrough.2.1 36 = .ok (.iastore, 1) := by decide +kernel
theorem dM_goThrough_37 : decode mM_goThrough.2.1 37 = .ok (.iinc 2 1, 3) := by decide +kernel
theorem dM_goThrough_40 : decode mM_goThrough.2.1 40 = .ok (.goto (-25), 3) := by decide +kernel
theorem dM_goThrough_43 : decode mM_goThrough.2.1 43 = .ok (.iconst 0, 1) := by decide +kernel
theorem dM_goThrough_44 : decode mM_goThrough.2.1 44 = .ok (.istore_n 2, 1) := by decide +kernel
theorem dM_goThrough_45 : decode mM_goThrough.2.1 45 = .ok (.iload_n 2, 1) := by decide +kernel
theorem dM_goThrough_46 : decode mM_goThrough.2.1 46 = .ok (.aload_n 0, 1) := by decide +kernel
theorem dM_goThrough_47 : decode mM_goThrough.2.1 47 = .ok (.getfield 9, 3) := by decide +kernel
theorem dM_goThrough_50 : decode mM_goThrough.2.1 50 = .ok (.iconst 2, 1) := by decide +kernel
theorem dM_goThrough_51 : decode mM_goThrough.2.1 51 = .ok (.iaload, 1) := by decide +kernel
theorem dM_goThrough_52 : decode mM_goThrough.2.1 52 = .ok (.if_icmp .ge 146, 3) := by decide +kernel
theorem dM_goThrough_55 : decode mM_goThrough.2.1 55 = .ok (.aload_n 0, 1) := by decide +kernel
theorem dM_goThrough_56 : decode mM_goThrough.2.1 56 = .ok (.getfield 40, 3) := by decide +kernel
theorem dM_goThrough_59 : decode mM_goThrough.2.1 59 = .ok (.iload_n 2, 1) := by decide +kernel
theorem dM_goThrough_60 : decode mM_goThrough.2.1 60 = .ok (.iaload, 1) := by decide +kernel
theorem dM_goThrough_61 : decode mM_goThrough.2.1 61 = .ok (.istore_n 3, 1) := by decide +kernel
theorem dM_goThrough_62 : decode mM_goThrough.2.1 62 = .ok (.aload_n 0, 1) := by decide +kernel
theorem dM_goThrough_63 : decode mM_goThrough.2.1 63 = .ok (.getfield 37, 3) := by decide +kernel
theorem dM_goThrough_66 : decode mM_goThrough.2.1 66 = .ok (.iload_n 3, 1) := by decide +kernel
theorem dM_goThrough_67 : decode mM_goThrough.2.1 67 = .ok (.aload_n 0, 1) := by decide +kernel
theorem dM_goThrough_68 : decode mM_goThrough.2.1 68 = .ok (.iload_n 3, 1) := by decide +kernel
theorem dM_goThrough_69 : decode mM_goThrough.2.1 69 = .ok (.aload_n 0, 1) := by decide +kernel
theorem dM_goThrough_70 : decode mM_goThrough.2.1 70 = .ok (.getfield 34, 3) := by decide +kernel
theorem dM_goThrough_73 : decode mM_goThrough.2.1 73 = .ok (.iload_n 3, 1) := by decide +kernel
theorem dM_goThrough_74 : decode mM_goThrough.2.1 74 = .ok (.iaload, 1) := by decide +kernel
theorem dM_goThrough_75 : decode mM_goThrough.2.1 75 = .ok (.aload_n 0, 1) := by decide +kernel
theorem dM_goThrough_76 : decode mM_goThrough.2.1 76 = .ok (.iload_n 3, 1) := by decide +kernel
theorem dM_goThrough_77 : decode mM_goThrough.2.1 77 = .ok (.invokevirtual 95, 3) := by decide +kernel
theorem dM_goThrough_80 : decode mM_goThrough.2.1 80 = .ok (.aload_n 0, 1) := by decide +kernel
theorem dM_goThrough_81 : decode mM_goThrough.2.1 81 = .ok (.getfield 31, 3) := by decide +kernel
theorem dM_goThrough_84 : decode mM_goThrough.2.1 84 = .ok (.iload_n 3, 1) := by decide +kernel
theorem dM_goThrough_85 : decode mM_goThrough.2.1 85 = .ok (.iaload, 1) := by decide +kernel
theorem dM_goThrough_86 : decode mM_goThrough.2.1 86 = .ok (.iadd, 1) := by decide +kernel
theorem dM_goThrough_87 : decode mM_goThrough.2.1 87 = .ok (.invokevirtual 150, 3) := by decide +kernel
theorem dM_goThrough_90 : decode mM_goThrough.2.1 90 = .ok (.iastore, 1) := by decide +kernel
theorem dM_goThrough_91 : decode mM_goThrough.2.1 91 = .ok (.iload_n 1, 1) := by decide +kernel
theorem dM_goThrough_92 : decode mM_goThrough.2.1 92 = .ok (.aload_n 0, 1) := by decide +kernel
theorem dM_goThrough_93 : decode mM_goThrough.2.1 93 = .ok (.getfield 37, 3) := by decide +kernel
theorem dM_goThrough_96 : decode mM_goThrough.2.1 96 = .ok (.iload_n 3, 1) := by decide +kernel
theorem dM_goThrough_97 : decode mM_goThrough.2.1 97 = .ok (.iaload, 1) := by decide +kernel
theorem dM_goThrough_98 : decode mM_goThrough.2.1 98 = .ok (.invokestatic 139, 3) := by decide +kernel
theorem dM_goThrough_101 : decode mM_goThrough.2.1 101 = .ok (.istore_n 1, 1) := by decide +kernel
theorem dM_goThrough_102 : decode mM_goThrough.2.1 102 = .ok (.iconst 0, 1) := by decide +kernel
theorem dM_goThrough_103 : decode mM_goThrough.2.1 103 = .ok (.istore 4, 2) := by decide +kernel
theorem dM_goThrough_105 : decode mM_goThrough.2.1 105 = .ok (.iload 4, 2) := by decide +kernel
theorem dM_goThrough_107 : decode mM_goThrough.2.1 107 = .ok (.aload_n 0, 1) := by decide +kernel
theorem dM_goThrough_108 : decode mM_goThrough.2.1 108 = .ok (.getfield 9, 3) := by decide +kernel
theorem dM_goThrough_111 : decode mM_goThrough.2.1 111 = .ok (.iconst 3, 1) := by decide +kernel
theorem dM_goThrough_112 : decode mM_goThrough.2.1 112 = .ok (.iaload, 1) := by decide +kernel
theorem dM_goThrough_113 : decode mM_goThrough.2.1 113 = .ok (.if_icmp .ge 79, 3) := by decide +kernel
theorem dM_goThrough_116 : decode mM_goThrough.2.1 116 = .ok (.aload_n 0, 1) := by decide +kernel
theorem dM_goThrough_117 : decode mM_goThrough.2.1 117 = .ok (.getfield 9, 3) := by decide +kernel
theorem dM_goThrough_120 : decode mM_goThrough.2.1 120 = .ok (.bipush 58, 2) := by decide +kernel
theorem dM_goThrough_122 : decode mM_goThrough.2.1 122 = .ok (.iconst 3, 1) := by decide +kernel
theorem dM_goThrough_123 : decode mM_goThrough.2.1 123 = .ok (.iload 4, 2) := by decide +kernel
theorem dM_goThrough_125 : decode mM_goThrough.2.1 125 = .ok (.imul, 1) := by decide +kernel
theorem dM_goThrough_126 : decode mM_goThrough.2.1 126 = .ok (.iadd, 1) := by decide +kernel
theorem dM_goThrough_127 : decode mM_goThrough.2.1 127 = .ok (.iaload, 1) := by decide +kernel
theorem dM_goThrough_128 : decode mM_goThrough.2.1 128 = .ok (.iload_n 3, 1) := by decide +kernel
theorem dM_goThrough_129 : decode mM_goThrough.2.1 129 = .ok (.if_icmp .ne 57, 3) := by decide +kernel
theorem dM_goThrough_132 : decode mM_goThrough.2.1 132 = .ok (.aload_n 0, 1) := by decide +kernel
theorem dM_goThrough_133 : decode mM_goThrough.2.1 133 = .ok (.getfield 9, 3) := by decide +kernel
theorem dM_goThrough_136 : decode mM_goThrough.2.1 136 = .ok (.bipush 58, 2) := by decide +kernel
theorem dM_goThrough_138 : decode mM_goThrough.2.1 138 = .ok (.iconst 3, 1) := by decide +kernel
theorem dM_goThrough_139 : decode mM_goThrough.2.1 139 = .ok (.iload 4, 2) := by decide +kernel
theorem dM_goThrough_141 : decode mM_goThrough.2.1 141 = .ok (.imul, 1) := by decide +kernel
theorem dM_goThrough_142 : decode mM_goThrough.2.1 142 = .ok (.iadd, 1) := by decide +kernel
theorem dM_goThrough_143 : decode mM_goThrough.2.1 143 = .ok (.iconst 1, 1) := by decide +kernel
theorem dM_goThrough_144 : decode mM_goThrough.2.1 144 = .ok (.iadd, 1) := by decide +kernel
theorem dM_goThrough_145 : decode mM_goThrough.2.1 145 = .ok (.iaload, 1) := by decide +kernel
theorem dM_goThrough_146 : decode mM_goThrough.2.1 146 = .ok (.istore 5, 2) := by decide +kernel
theorem dM_goThrough_148 : decode mM_goThrough.2.1 148 = .ok (.aload_n 0, 1) := by decide +kernel
theorem dM_goThrough_149 : decode mM_goThrough.2.1 149 = .ok (.getfield 34, 3) := by decide +kernel
theorem dM_goThrough_152 : decode mM_goThrough.2.1 152 = .ok (.iload 5, 2) := by decide +kernel
theorem dM_goThrough_154 : decode mM_goThrough.2.1 154 = .ok (.aload_n 0, 1) := by decide +kernel
theorem dM_goThrough_155 : decode mM_goThrough.2.1 155 = .ok (.getfield 34, 3) := by decide +kernel
theorem dM_goThrough_158 : decode mM_goThrough.2.1 158 = .ok (.iload 5, 2) := by decide +kernel
theorem dM_goThrough_160 : decode mM_goThrough.2.1 160 = .ok (.iaload, 1) := by decide +kernel
theorem dM_goThrough_161 : decode mM_goThrough.2.1 161 = .ok (.aload_n 0, 1) := by decide +kernel
theorem dM_goThrough_162 : decode mM_goThrough.2.1 162 = .ok (.getfield 37, 3) := by decide +kernel
theorem dM_goThrough_165 : decode mM_goThrough.2.1 165 = .ok (.iload_n 3, 1) := by decide +kernel
theorem dM_goThrough_166 : decode mM_goThrough.2.1 166 = .ok (.iaload, 1) := by decide +kernel
theorem dM_goThrough_167 : decode mM_goThrough.2.1 167 = .ok (.aload_n 0, 1) := by decide +kernel
theorem dM_goThrough_168 : decode mM_goThrough.2.1 168 = .ok (.getfield 9, 3) := by decide +kernel
theorem dM_goThrough_171 : decode mM_goThrough.2.1 171 = .ok (.bipush 58, 2) := by decide +kernel
theorem dM_goThrough_173 : decode mM_goThrough.2.1 173 = .ok (.iconst 3, 1) := by decide +kernel
theorem dM_goThrough_174 : decode mM_goThrough.2.1 174 = .ok (.iload 4, 2) := by decide +kernel
theorem dM_goThrough_176 : decode mM_goThrough.2.1 176 = .ok (.imul, 1) := by decide +kernel
theorem dM_goThrough_177 : decode mM_goThrough.2.1 177 = .ok (.iadd, 1) := by decide +kernel
theorem dM_goThrough_178 : decode mM_goThrough.2.1 178 = .ok (.iconst 2, 1) := by decide +kernel
theorem dM_goThrough_179 : decode mM_goThrough.2.1 179 = .ok (.iadd, 1) := by decide +kernel
theorem dM_goThrough_180 : decode mM_goThrough.2.1 180 = .ok (.iaload, 1) := by decide +kernel
theorem dM_goThrough_181 : decode mM_goThrough.2.1 181 = .ok (.iadd, 1) := by decide +kernel
theorem dM_goThrough_182 : decode mM_goThrough.2.1 182 = .ok (.invokestatic 139, 3) := by decide +kernel
theorem dM_goThrough_185 : decode mM_goThrough.2.1 185 = .ok (.iastore, 1) := by decide +kernel
theorem dM_goThrough_186 : decode mM_goThrough.2.1 186 = .ok (.iinc 4 1, 3) := by decide +kernel
theorem dM_goThrough_189 : decode mM_goThrough.2.1 189 = .ok (.goto (-84), 3) := by decide +kernel
theorem dM_goThrough_192 : decode mM_goThrough.2.1 192 = .ok (.iinc 2 1, 3) := by decide +kernel
theorem dM_goThrough_195 : decode mM_goThrough.2.1 195 = .ok (.goto (-150), 3) := by decide +kernel
theorem dM_goThrough_198 : decode mM_goThrough.2.1 198 = .ok (.iload_n 1, 1) := by decide +kernel
theorem dM_goThrough_199 : decode mM_goThrough.2.1 199 = .ok (.ireturn, 1) := by decide +kernel
theorem dM_sort_0 : decode mM_sort.2.1 0 = .ok (.iconst 0, 1) := by decide +kernel
theorem dM_sort_1 : decode mM_sort.2.1 1 = .ok (.istore_n 1, 1) := by decide +kernel
theorem dM_sort_2 : decode mM_sort.2.1 2 = .ok (.iconst 0, 1) := by decide +kernel
theorem dM_sort_3 : decode mM_sort.2.1 3 = .ok (.istore_n 2, 1) := by decide +kernel
theorem dM_sort_4 : decode mM_sort.2.1 4 = .ok (.iload_n 2, 1) := by decide +kernel
theorem dM_sort_5 : decode mM_sort.2.1 5 = .ok (.aload_n 0, 1) := by decide +kernel
theorem dM_sort_6 : decode mM_sort.2.1 6 = .ok (.getfield 9, 3) := by decide +kernel
theorem dM_sort_9 : decode mM_sort.2.1 9 = .ok (.iconst 2, 1) := by decide +kernel
theorem dM_sort_10 : decode mM_sort.2.1 10 = .ok (.iaload, 1) := by decide +kernel
theorem dM_sort_11 : decode mM_sort.2.1 11 = .ok (.if_icmp .ge 129, 3) := by decide +kernel
theorem dM_sort_14 : decode mM_sort.2.1 14 = .ok (.iconst 0, 1) := by decide +kernel
theorem dM_sort_15 : decode mM_sort.2.1 15 = .ok (.istore_n 3, 1) := by decide +kernel
theorem dM_sort_16 : decode mM_sort.2.1 16 = .ok (.iload_n 3, 1) := by decide +kernel
theorem dM_sort_17 : decode mM_sort.2.1 17 = .ok (.aload_n 0, 1) := by decide +kernel
theorem dM_sort_18 : decode mM_sort.2.1 18 = .ok (.getfield 9, 3) := by decide +kernel
theorem dM_sort_21 : decode mM_sort.2.1 21 = .ok (.iconst 2, 1) := by decide +kernel
theorem dM_sort_22 : decode mM_sort.2.1 22 = .ok (.iaload, 1) := by decide +kernel
theorem dM_sort_23 : decode mM_sort.2.1 23 = .ok (.if_icmp .ge 114, 3) := by decide +kernel
theorem dM_sort_26 : decode mM_sort.2.1 26 = .ok (.iload_n 1, 1) := by decide +kernel
theorem dM_sort_27 : decode mM_sort.2.1 27 = .ok (.iload_n 3, 1) := by decide +kernel
theorem dM_sort_28 : decode mM_sort.2.1 28 = .ok (.invokestatic 102, 3) := by decide +kernel
theorem dM_sort_31 : decode mM_sort.2.1 31 = .ok (.ifCond .ne 7, 3) := by decide +kernel
theorem dM_sort_34 : decode mM_sort.2.1 34 = .ok (.iconst 1, 1) := by decide +kernel
theorem dM_sort_35 : decode mM_sort.2.1 35 = .ok (.goto 4, 3) := by decide +kernel
theorem dM_sort_38 : decode mM_sort.2.1 38 = .ok (.iconst 0, 1) := by decide +kernel
theorem dM_sort_39 : decode mM_sort.2.1 39 = .ok (.istore 4, 2) := by decide +kernel
theorem dM_sort_41 : decode mM_sort.2.1 41 = .ok (.iconst 0, 1) := by decide +kernel
theorem dM_sort_42 : decode mM_sort.2.1 42 = .ok (.istore 5, 2) := by decide +kernel
theorem dM_sort_44 : decode mM_sort.2.1 44 = .ok (.iload 5, 2) := by decide +kernel
theorem dM_sort_46 : decode mM_sort.2.1 46 = .ok (.aload_n 0, 1) := by decide +kernel
theorem dM_sort_47 : decode mM_sort.2.1 47 = .ok (.getfield 9, 3) := by decide +kernel
theorem dM_sort_50 : decode mM_sort.2.1 50 = .ok (.iconst 3, 1) := by decide +kernel
theorem dM_sort_51 : decode mM_sort.2.1 51 = .ok (.iaload, 1) := by decide +kernel
theorem dM_sort_52 : decode mM_sort.2.1 52 = .ok (.if_icmp .ge 58, 3) := by decide +kernel
theorem dM_sort_55 : decode mM_sort.2.1 55 = .ok (.iload 4, 2) := by decide +kernel
theorem dM_sort_57 : decode mM_sort.2.1 57 = .ok (.ifCond .eq 53, 3) := by decide +kernel
theorem dM_sort_60 : decode mM_sort.2.1 60 = .ok (.aload_n 0, 1) := by decide +kernel
theorem dM_sort_61 : decode mM_sort.2.1 61 = .ok (.getfield 9, 3) := by decide +kernel
theorem dM_sort_64 : decode mM_sort.2.1 64 = .ok (.bipush 58, 2) := by decide +kernel
theorem dM_sort_66 : decode mM_sort.2.1 66 = .ok (.iconst 3, 1) := by decide +kernel
theorem dM_sort_67 : decode mM_sort.2.1 67 = .ok (.iload 5, 2) := by decide +kernel
theorem dM_sort_69 : decode mM_sort.2.1 69 = .ok (.imul, 1) := by decide +kernel
theorem dM_sort_70 : decode mM_sort.2.1 70 = .ok (.iadd, 1) := by decide +kernel
theorem dM_sort_71 : decode mM_sort.2.1 71 = .ok (.iconst 1, 1) := by decide +kernel
theorem dM_sort_72 : decode mM_sort.2.1 72 = .ok (.iadd, 1) := by decide +kernel
theorem dM_sort_73 : decode mM_sort.2.1 73 = .ok (.iaload, 1) := by decide +kernel
theorem dM_sort_74 : decode mM_sort.2.1 74 = .ok (.iload_n 3, 1) := by decide +kernel
theorem dM_sort_75 : decode mM_sort.2.1 75 = .ok (.if_icmp .ne 22, 3) := by decide +kernel
theorem dM_sort_78 : decode mM_sort.2.1 78 = .ok (.iload_n 1, 1) := by decide +kernel
theorem dM_sort_79 : decode mM_sort.2.1 79 = .ok (.aload_n 0, 1) := by decide +kernel
theorem dM_sort_80 : decode mM_sort.2.1 80 = .ok (.getfield 9, 3) := by decide +kernel
theorem dM_sort_83 : decode mM_sort.2.1 83 = .ok (.bipush 58, 2) := by decide +kernel
theorem dM_sort_85 : decode mM_sort.2.1 85 = .ok (.iconst 3, 1) := by decide +kernel
theorem dM_sort_86 : decode mM_sort.2.1 86 = .ok (.iload 5, 2) := by decide +kernel
theorem dM_sort_88 : decode mM_sort.2.1 88 = .ok (.imul, 1) := by decide +kernel
theorem dM_sort_89 : decode mM_sort.2.1 89 = .ok (.iadd, 1) := by decide +kernel
theorem dM_sort_90 : decode mM_sort.2.1 90 = .ok (.iaload, 1) := by decide +kernel
theorem dM_sort_91 : decode mM_sort.2.1 91 = .ok (.invokestatic 102, 3) := by decide +kernel
theorem dM_sort_94 : decode mM_sort.2.1 94 = .ok (.ifCond .eq 7, 3) := by decide +kernel
theorem dM_sort_97 : decode mM_sort.2.1 97 = .ok (.iconst 1, 1) := by decide +kernel
theorem dM_sort_98 : decode mM_sort.2.1 98 = .ok (.goto 4, 3) := by decide +kernel
theorem dM_sort_101 : decode mM_sort.2.1 101 = .ok (.iconst 0, 1) := by decide +kernel
theorem dM_sort_102 : decode mM_sort.2.1 102 = .ok (.istore 4, 2) := by decide +kernel
theorem dM_sort_104 : decode mM_sort.2.1 104 = .ok (.iinc 5 1, 3) := by decide +kernel
theorem dM_sort_107 : decode mM_sort.2.1 107 = .ok (.goto (-63), 3) := by decide +kernel
theorem dM_sort_110 : decode mM_sort.2.1 110 = .ok (.iload 4, 2) := by decide +kernel
theorem dM_sort_112 : decode mM_sort.2.1 112 = .ok (.ifCond .eq 19, 3) := by decide +kernel
theorem dM_sort_115 : decode mM_sort.2.1 115 = .ok (.aload_n 0, 1) := by decide +kernel
theorem dM_sort_116 : decode mM_sort.2.1 116 = .ok (.getfield 40, 3) := by decide +kernel
theorem dM_sort_119 : decode mM_sort.2.1 119 = .ok (.iload_n 2, 1) := by decide +kernel
theorem dM_sort_120 : decode mM_sort.2.1 120 = .ok (.iload_n 3, 1) := by decide +kernel
theorem dM_sort_121 : decode mM_sort.2.1 121 = .ok (.iastore, 1) := by decide +kernel
theorem dM_sort_122 : decode mM_sort.2.1 122 = .ok (.iinc 2 1, 3) := by decide +kernel
theorem dM_sort_125 : decode mM_sort.2.1 125 = .ok (.iload_n 1, 1) := by decide +kernel
theorem dM_sort_126 : decode mM_sort.2.1 126 = .ok (.iconst 1, 1) := by decide +kernel
theorem dM_sort_127 : decode mM_sort.2.1 127 = .ok (.iload_n 3, 1) := by decide +kernel
theorem dM_sort_128 : decode mM_sort.2.1 128 = .ok (.ishl, 1) := by decide +kernel
theorem dM_sort_129 : decode mM_sort.2.1 129 = .ok (.ior, 1) := by decide +kernel
theorem dM_sort_130 : decode mM_sort.2.1 130 = .ok (.istore_n 1, 1) := by decide +kernel
theorem dM_sort_131 : decode mM_sort.2.1 131 = .ok (.iinc 3 1, 3) := by decide +kernel
theorem dM_sort_134 : decode mM_sort.2.1 134 = .ok (.goto (-118), 3) := by decide +kernel
theorem dM_sort_137 : decode mM_sort.2.1 137 = .ok (.goto (-133), 3) := by decide +kernel
theorem dM_sort_140 : decode mM_sort.2.1 140 = .ok (.aload_n 0, 1) := by decide +kernel
theorem dM_sort_141 : decode mM_sort.2.1 141 = .ok (.iconst 1, 1) := by decide +kernel
theorem dM_sort_142 : decode mM_sort.2.1 142 = .ok (.putfield 135, 3) := by decide +kernel
theorem dM_sort_145 : decode mM_sort.2.1 145 = .ok (.return_, 1) := by decide +kernel
theorem dM_endOf_0 : decode mM_endOf.2.1 0 = .ok (.aload_n 0, 1) := by decide +kernel
theorem dM_endOf_1 : decode mM_endOf.2.1 1 = .ok (.iload_n 1, 1) := by decide +kernel
theorem dM_endOf_2 : decode mM_endOf.2.1 2 = .ok (.invokevirtual 88, 3) := by decide +kernel
theorem dM_endOf_5 : decode mM_endOf.2.1 5 = .ok (.istore 4, 2) := by decide +kernel
theorem dM_endOf_7 : decode mM_endOf.2.1 7 = .ok (.iload 4, 2) := by decide +kernel
theorem dM_endOf_9 : decode mM_endOf.2.1 9 = .ok (.iconst 4, 1) := by decide +kernel
theorem dM_endOf_10 : decode mM_endOf.2.1 10 = .ok (.if_icmp .eq 9, 3) := by decide +kernel
theorem dM_endOf_13 : decode mM_endOf.2.1 13 = .ok (.iload 4, 2) := by decide +kernel
theorem dM_endOf_15 : decode mM_endOf.2.1 15 = .ok (.iconst 5, 1) := by decide +kernel
theorem dM_endOf_16 : decode mM_endOf.2.1 16 = .ok (.if_icmp .ne 11, 3) := by decide +kernel
theorem dM_endOf_19 : decode mM_endOf.2.1 19 = .ok (.iload_n 2, 1) := by decide +kernel
theorem dM_endOf_20 : decode mM_endOf.2.1 20 = .ok (.iconst 0, 1) := by decide +kernel
theorem dM_endOf_21 : decode mM_endOf.2.1 21 = .ok (.iload_n 3, 1) := by decide +kernel
theorem dM_endOf_22 : decode mM_endOf.2.1 22 = .ok (.invokestatic 139, 3) := by decide +kernel
theorem dM_endOf_25 : decode mM_endOf.2.1 25 = .ok (.iadd, 1) := by decide +kernel
theorem dM_endOf_26 : decode mM_endOf.2.1 26 = .ok (.ireturn, 1) := by decide +kernel
theorem dM_endOf_27 : decode mM_endOf.2.1 27 = .ok (.iload_n 3, 1) := by decide +kernel
theorem dM_endOf_28 : decode mM_endOf.2.1 28 = .ok (.istore 5, 2) := by decide +kernel
theorem dM_endOf_30 : decode mM_endOf.2.1 30 = .ok (.iload_n 2, 1) := by decide +kernel
theorem dM_endOf_31 : decode mM_endOf.2.1 31 = .ok (.istore 6, 2) := by decide +kernel
theorem dM_endOf_33 : decode mM_endOf.2.1 33 = .ok (.iload 5, 2) := by decide +kernel
theorem dM_endOf_35 : decode mM_endOf.2.1 35 = .ok (.ifCond .le 29, 3) := by decide +kernel
theorem dM_endOf_38 : decode mM_endOf.2.1 38 = .ok (.iload 5, 2) := by decide +kernel
theorem dM_endOf_40 : decode mM_endOf.2.1 40 = .ok (.aload_n 0, 1) := by decide +kernel
theorem dM_endOf_41 : decode mM_endOf.2.1 41 = .ok (.iload_n 1, 1) := by decide +kernel
theorem dM_endOf_42 : decode mM_endOf.2.1 42 = .ok (.iload 6, 2) := by decide +kernel
theorem dM_endOf_44 : decode mM_endOf.2.1 44 = .ok (.invokevirtual 144, 3) := by decide +kernel
theorem dM_endOf_47 : decode mM_endOf.2.1 47 = .ok (.ifCond .eq 7, 3) := by decide +kernel
theorem dM_endOf_50 : decode mM_endOf.2.1 50 = .ok (.iconst 1, 1) := by decide +kernel
theorem dM_endOf_51 : decode mM_endOf.2.1 51 = .ok (.goto 4, 3) := by decide +kernel
theorem dM_endOf_54 : decode mM_endOf.2.1 54 = .ok (.iconst 0, 1) := by decide +kernel
theorem dM_endOf_55 : decode mM_endOf.2.1 55 = .ok (.isub, 1) := by decide +kernel
theorem dM_endOf_56 : decode mM_endOf.2.1 56 = .ok (.istore 5, 2) := by decide +kernel
theorem dM_endOf_58 : decode mM_endOf.2.1 58 = .ok (.iinc 6 1, 3) := by decide +kernel
theorem dM_endOf_61 : decode mM_endOf.2.1 61 = .ok (.goto (-28), 3) := by decide +kernel
theorem dM_endOf_64 : decode mM_endOf.2.1 64 = .ok (.iload 6, 2) := by decide +kernel
theorem dM_endOf_66 : decode mM_endOf.2.1 66 = .ok (.ireturn, 1) := by decide +kernel
theorem dM_goesOn_0 : decode mM_goesOn.2.1 0 = .ok (.aload_n 0, 1) := by decide +kernel
theorem dM_goesOn_1 : decode mM_goesOn.2.1 1 = .ok (.getfield 9, 3) := by decide +kernel
theorem dM_goesOn_4 : decode mM_goesOn.2.1 4 = .ok (.iconst 1, 1) := by decide +kernel
theorem dM_goesOn_5 : decode mM_goesOn.2.1 5 = .ok (.iaload, 1) := by decide +kernel
theorem dM_goesOn_6 : decode mM_goesOn.2.1 6 = .ok (.iload_n 2, 1) := by decide +kernel
theorem dM_goesOn_7 : decode mM_goesOn.2.1 7 = .ok (.bipush 7, 2) := by decide +kernel
theorem dM_goesOn_9 : decode mM_goesOn.2.1 9 = .ok (.irem, 1) := by decide +kernel
theorem dM_goesOn_10 : decode mM_goesOn.2.1 10 = .ok (.invokestatic 102, 3) := by decide +kernel
theorem dM_goesOn_13 : decode mM_goesOn.2.1 13 = .ok (.istore_n 3, 1) := by decide +kernel
theorem dM_goesOn_14 : decode mM_goesOn.2.1 14 = .ok (.iload_n 2, 1) := by decide +kernel
theorem dM_goesOn_15 : decode mM_goesOn.2.1 15 = .ok (.sipush 900, 3) := by decide +kernel
theorem dM_goesOn_18 : decode mM_goesOn.2.1 18 = .ok (.if_icmp .ge 21, 3) := by decide +kernel
theorem dM_goesOn_21 : decode mM_goesOn.2.1 21 = .ok (.aload_n 0, 1) := by decide +kernel
theorem dM_goesOn_22 : decode mM_goesOn.2.1 22 = .ok (.getfield 9, 3) := by decide +kernel
theorem dM_goesOn_25 : decode mM_goesOn.2.1 25 = .ok (.sipush 1033, 3) := by decide +kernel
theorem dM_goesOn_28 : decode mM_goesOn.2.1 28 = .ok (.iload_n 2, 1) := by decide +kernel
theorem dM_goesOn_29 : decode mM_goesOn.2.1 29 = .ok (.iadd, 1) := by decide +kernel
theorem dM_goesOn_30 : decode mM_goesOn.2.1 30 = .ok (.iaload, 1) := by decide +kernel
theorem dM_goesOn_31 : decode mM_goesOn.2.1 31 = .ok (.iconst 1, 1) := by decide +kernel
theorem dM_goesOn_32 : decode mM_goesOn.2.1 32 = .ok (.if_icmp .ne 7, 3) := by decide +kernel
theorem dM_goesOn_35 : decode mM_goesOn.2.1 35 = .ok (.iconst 1, 1) := by decide +kernel
theorem dM_goesOn_36 : decode mM_goesOn.2.1 36 = .ok (.goto 4, 3) := by decide +kernel
theorem dM_goesOn_39 : decode mM_goesOn.2.1 39 = .ok (.iconst 0, 1) := by decide +kernel
theorem dM_goesOn_40 : decode mM_goesOn.2.1 40 = .ok (.istore 4, 2) := by decide +kernel
theorem dM_goesOn_42 : decode mM_goesOn.2.1 42 = .ok (.aload_n 0, 1) := by decide +kernel
theorem dM_goesOn_43 : decode mM_goesOn.2.1 43 = .ok (.iload_n 1, 1) := by decide +kernel
theorem dM_goesOn_44 : decode mM_goesOn.2.1 44 = .ok (.invokevirtual 88, 3) := by decide +kernel
theorem dM_goesOn_47 : decode mM_goesOn.2.1 47 = .ok (.istore 5, 2) := by decide +kernel
theorem dM_goesOn_49 : decode mM_goesOn.2.1 49 = .ok (.iload 5, 2) := by decide +kernel
theorem dM_goesOn_51 : decode mM_goesOn.2.1 51 = .ok (.iconst 4, 1) := by decide +kernel
theorem dM_goesOn_52 : decode mM_goesOn.2.1 52 = .ok (.if_icmp .eq 24, 3) := by decide +kernel
theorem dM_goesOn_55 : decode mM_goesOn.2.1 55 = .ok (.iload 5, 2) := by decide +kernel
theorem dM_goesOn_57 : decode mM_goesOn.2.1 57 = .ok (.iconst 5, 1) := by decide +kernel
theorem dM_goesOn_58 : decode mM_goesOn.2.1 58 = .ok (.if_icmp .eq 18, 3) := by decide +kernel
theorem dM_goesOn_61 : decode mM_goesOn.2.1 61 = .ok (.iload_n 3, 1) := by decide +kernel
theorem dM_goesOn_62 : decode mM_goesOn.2.1 62 = .ok (.ifCond .eq 18, 3) := by decide +kernel
theorem dM_goesOn_65 : decode mM_goesOn.2.1 65 = .ok (.iload 5, 2) := by decide +kernel
theorem dM_goesOn_67 : decode mM_goesOn.2.1 67 = .ok (.iconst 1, 1) := by decide +kernel
theorem dM_goesOn_68 : decode mM_goesOn.2.1 68 = .ok (.if_icmp .ne 8, 3) := by decide +kernel
theorem dM_goesOn_71 : decode mM_goesOn.2.1 71 = .ok (.iload 4, 2) := by decide +kernel
theorem dM_goesOn_73 : decode mM_goesOn.2.1 73 = .ok (.ifCond .ne 7, 3) := by decide +kernel
theorem dM_goesOn_76 : decode mM_goesOn.2.1 76 = .ok (.iconst 1, 1) := by decide +kernel
theorem dM_goesOn_77 : decode mM_goesOn.2.1 77 = .ok (.goto 4, 3) := by decide +kernel
theorem dM_goesOn_80 : decode mM_goesOn.2.1 80 = .ok (.iconst 0, 1) := by decide +kernel
theorem dM_goesOn_81 : decode mM_goesOn.2.1 81 = .ok (.ireturn, 1) := by decide +kernel
theorem dM_end_0 : decode mM_end.2.1 0 = .ok (.aload_n 0, 1) := by decide +kernel
theorem dM_end_1 : decode mM_end.2.1 1 = .ok (.iload_n 1, 1) := by decide +kernel
theorem dM_end_2 : decode mM_end.2.1 2 = .ok (.invokevirtual 168, 3) := by decide +kernel
theorem dM_end_5 : decode mM_end.2.1 5 = .ok (.ifCond .eq 11, 3) := by decide +kernel
theorem dM_end_8 : decode mM_end.2.1 8 = .ok (.aload_n 0, 1) := by decide +kernel
theorem dM_end_9 : decode mM_end.2.1 9 = .ok (.iload_n 1, 1) := by decide +kernel
theorem dM_end_10 : decode mM_end.2.1 10 = .ok (.invokevirtual 162, 3) := by decide +kernel
theorem dM_end_13 : decode mM_end.2.1 13 = .ok (.goto 9, 3) := by decide +kernel
theorem dM_end_16 : decode mM_end.2.1 16 = .ok (.aload_n 0, 1) := by decide +kernel
theorem dM_end_17 : decode mM_end.2.1 17 = .ok (.ldc 78, 2) := by decide +kernel
theorem dM_end_19 : decode mM_end.2.1 19 = .ok (.invokevirtual 79, 3) := by decide +kernel
theorem dM_end_22 : decode mM_end.2.1 22 = .ok (.ireturn, 1) := by decide +kernel
theorem dM_chain_0 : decode mM_chain.2.1 0 = .ok (.aload_n 0, 1) := by decide +kernel
theorem dM_chain_1 : decode mM_chain.2.1 1 = .ok (.iload_n 1, 1) := by decide +kernel
theorem dM_chain_2 : decode mM_chain.2.1 2 = .ok (.invokevirtual 168, 3) := by decide +kernel
theorem dM_chain_5 : decode mM_chain.2.1 5 = .ok (.ifCond .eq 7, 3) := by decide +kernel
theorem dM_chain_8 : decode mM_chain.2.1 8 = .ok (.iload_n 2, 1) := by decide +kernel
theorem dM_chain_9 : decode mM_chain.2.1 9 = .ok (.ifCond .ge 10, 3) := by decide +kernel
theorem dM_chain_12 : decode mM_chain.2.1 12 = .ok (.aload_n 0, 1) := by decide +kernel
theorem dM_chain_13 : decode mM_chain.2.1 13 = .ok (.ldc 78, 2) := by decide +kernel
theorem dM_chain_15 : decode mM_chain.2.1 15 = .ok (.invokevirtual 79, 3) := by decide +kernel
theorem dM_chain_18 : decode mM_chain.2.1 18 = .ok (.ireturn, 1) := by decide +kernel
theorem dM_chain_19 : decode mM_chain.2.1 19 = .ok (.aload_n 0, 1) := by decide +kernel
theorem dM_chain_20 : decode mM_chain.2.1 20 = .ok (.iload_n 1, 1) := by decide +kernel
theorem dM_chain_21 : decode mM_chain.2.1 21 = .ok (.invokevirtual 162, 3) := by decide +kernel
theorem dM_chain_24 : decode mM_chain.2.1 24 = .ok (.istore_n 3, 1) := by decide +kernel
theorem dM_chain_25 : decode mM_chain.2.1 25 = .ok (.iconst (-1), 1) := by decide +kernel
theorem dM_chain_26 : decode mM_chain.2.1 26 = .ok (.istore 4, 2) := by decide +kernel
theorem dM_chain_28 : decode mM_chain.2.1 28 = .ok (.aload_n 0, 1) := by decide +kernel
theorem dM_chain_29 : decode mM_chain.2.1 29 = .ok (.getfield 9, 3) := by decide +kernel
theorem dM_chain_32 : decode mM_chain.2.1 32 = .ok (.iconst 2, 1) := by decide +kernel
theorem dM_chain_33 : decode mM_chain.2.1 33 = .ok (.iaload, 1) := by decide +kernel
theorem dM_chain_34 : decode mM_chain.2.1 34 = .ok (.iconst 1, 1) := by decide +kernel
theorem dM_chain_35 : decode mM_chain.2.1 35 = .ok (.isub, 1) := by decide +kernel
theorem dM_chain_36 : decode mM_chain.2.1 36 = .ok (.istore 5, 2) := by decide +kernel
theorem dM_chain_38 : decode mM_chain.2.1 38 = .ok (.iload 5, 2) := by decide +kernel
theorem dM_chain_40 : decode mM_chain.2.1 40 = .ok (.ifCond .lt 29, 3) := by decide +kernel
theorem dM_chain_43 : decode mM_chain.2.1 43 = .ok (.aload_n 0, 1) := by decide +kernel
theorem dM_chain_44 : decode mM_chain.2.1 44 = .ok (.getfield 37, 3) := by decide +kernel
theorem dM_chain_47 : decode mM_chain.2.1 47 = .ok (.iload 5, 2) := by decide +kernel
theorem dM_chain_49 : decode mM_chain.2.1 49 = .ok (.iaload, 1) := by decide +kernel
theorem dM_chain_50 : decode mM_chain.2.1 50 = .ok (.iload_n 3, 1) := by decide +kernel
theorem dM_chain_51 : decode mM_chain.2.1 51 = .ok (.if_icmp .ne 8, 3) := by decide +kernel
theorem dM_chain_54 : decode mM_chain.2.1 54 = .ok (.iload 5, 2) := by decide +kernel
theorem dM_chain_56 : decode mM_chain.2.1 56 = .ok (.goto 5, 3) := by decide +kernel
theorem dM_chain_59 : decode mM_chain.2.1 59 = .ok (.iload 4, 2) := by decide +kernel
theorem dM_chain_61 : decode mM_chain.2.1 61 = .ok (.istore 4, 2) := by decide +kernel
theorem dM_chain_63 : decode mM_chain.2.1 63 = .ok (.iinc 5 (-1), 3) := by decide +kernel
theorem dM_chain_66 : decode mM_chain.2.1 66 = .ok (.goto (-28), 3) := by decide +kernel
theorem dM_chain_69 : decode mM_chain.2.1 69 = .ok (.iconst 0, 1) := by decide +kernel
theorem dM_chain_70 : decode mM_chain.2.1 70 = .ok (.istore 5, 2) := by decide +kernel
theorem dM_chain_72 : decode mM_chain.2.1 72 = .ok (.iload 5, 2) := by decide +kernel
theorem dM_chain_74 : decode mM_chain.2.1 74 = .ok (.iload_n 2, 1) := by decide +kernel
theorem dM_chain_75 : decode mM_chain.2.1 75 = .ok (.if_icmp .ge 139, 3) := by decide +kernel
theorem dM_chain_78 : decode mM_chain.2.1 78 = .ok (.iload 4, 2) := by decide +kernel
theorem dM_chain_80 : decode mM_chain.2.1 80 = .ok (.ifCond .lt 134, 3) := by decide +kernel
theorem dM_chain_83 : decode mM_chain.2.1 83 = .ok (.iconst (-1), 1) := by decide +kernel
theorem dM_chain_84 : decode mM_chain.2.1 84 = .ok (.istore 6, 2) := by decide +kernel
theorem dM_chain_86 : decode mM_chain.2.1 86 = .ok (.iconst 0, 1) := by decide +kernel
theorem dM_chain_87 : decode mM_chain.2.1 87 = .ok (.istore 7, 2) := by decide +kernel
theorem dM_chain_89 : decode mM_chain.2.1 89 = .ok (.iload 7, 2) := by decide +kernel
theorem dM_chain_91 : decode mM_chain.2.1 91 = .ok (.aload_n 0, 1) := by decide +kernel
theorem dM_chain_92 : decode mM_chain.2.1 92 = .ok (.getfield 9, 3) := by decide +kernel
theorem dM_chain_95 : decode mM_chain.2.1 95 = .ok (.iconst 3, 1) := by decide +kernel
theorem dM_chain_96 : decode mM_chain.2.1 96 = .ok (.iaload, 1) := by decide +kernel
theorem dM_chain_97 : decode mM_chain.2.1 97 = .ok (.if_icmp .ge 107, 3) := by decide +kernel
theorem dM_chain_100 : decode mM_chain.2.1 100 = .ok (.aload_n 0, 1) := by decide +kernel
theorem dM_chain_101 : decode mM_chain.2.1 101 = .ok (.getfield 9, 3) := by decide +kernel
theorem dM_chain_104 : decode mM_chain.2.1 104 = .ok (.bipush 58, 2) := by decide +kernel
theorem dM_chain_106 : decode mM_chain.2.1 106 = .ok (.iconst 3, 1) := by decide +kernel
theorem dM_chain_107 : decode mM_chain.2.1 107 = .ok (.iload 7, 2) := by decide +kernel
theorem dM_chain_109 : decode mM_chain.2.1 109 = .ok (.imul, 1) := by decide +kernel
theorem dM_chain_110 : decode mM_chain.2.1 110 = .ok (.iadd, 1) := by decide +kernel
theorem dM_chain_111 : decode mM_chain.2.1 111 = .ok (.iaload, 1) := by decide +kernel
theorem dM_chain_112 : decode mM_chain.2.1 112 = .ok (.istore 8, 2) := by decide +kernel
theorem dM_chain_114 : decode mM_chain.2.1 114 = .ok (.aload_n 0, 1) := by decide +kernel
theorem dM_chain_115 : decode mM_chain.2.1 115 = .ok (.getfield 9, 3) := by decide +kernel
theorem dM_chain_118 : decode mM_chain.2.1 118 = .ok (.bipush 58, 2) := by decide +kernel
theorem dM_chain_120 : decode mM_chain.2.1 120 = .ok (.iconst 3, 1) := by decide +kernel
theorem dM_chain_121 : decode mM_chain.2.1 121 = .ok (.iload 7, 2) := by decide +kernel
theorem dM_chain_123 : decode mM_chain.2.1 123 = .ok (.imul, 1) := by decide +kernel
theorem dM_chain_124 : decode mM_chain.2.1 124 = .ok (.iadd, 1) := by decide +kernel
theorem dM_chain_125 : decode mM_chain.2.1 125 = .ok (.iconst 1, 1) := by decide +kernel
theorem dM_chain_126 : decode mM_chain.2.1 126 = .ok (.iadd, 1) := by decide +kernel
theorem dM_chain_127 : decode mM_chain.2.1 127 = .ok (.iaload, 1) := by decide +kernel
theorem dM_chain_128 : decode mM_chain.2.1 128 = .ok (.iload 4, 2) := by decide +kernel
theorem dM_chain_130 : decode mM_chain.2.1 130 = .ok (.if_icmp .ne 39, 3) := by decide +kernel
theorem dM_chain_133 : decode mM_chain.2.1 133 = .ok (.aload_n 0, 1) := by decide +kernel
theorem dM_chain_134 : decode mM_chain.2.1 134 = .ok (.getfield 37, 3) := by decide +kernel
theorem dM_chain_137 : decode mM_chain.2.1 137 = .ok (.iload 8, 2) := by decide +kernel
theorem dM_chain_139 : decode mM_chain.2.1 139 = .ok (.iaload, 1) := by decide +kernel
theorem dM_chain_140 : decode mM_chain.2.1 140 = .ok (.aload_n 0, 1) := by decide +kernel
theorem dM_chain_141 : decode mM_chain.2.1 141 = .ok (.getfield 9, 3) := by decide +kernel
theorem dM_chain_144 : decode mM_chain.2.1 144 = .ok (.bipush 58, 2) := by decide +kernel
theorem dM_chain_146 : decode mM_chain.2.1 146 = .ok (.iconst 3, 1) := by decide +kernel
theorem dM_chain_147 : decode mM_chain.2.1 147 = .ok (.iload 7, 2) := by decide +kernel
theorem dM_chain_149 : decode mM_chain.2.1 149 = .ok (.imul, 1) := by decide +kernel
theorem dM_chain_150 : decode mM_chain.2.1 150 = .ok (.iadd, 1) := by decide +kernel
theorem dM_chain_151 : decode mM_chain.2.1 151 = .ok (.iconst 2, 1) := by decide +kernel
theorem dM_chain_152 : decode mM_chain.2.1 152 = .ok (.iadd, 1) := by decide +kernel
theorem dM_chain_153 : decode mM_chain.2.1 153 = .ok (.iaload, 1) := by decide +kernel
theorem dM_chain_154 : decode mM_chain.2.1 154 = .ok (.iadd, 1) := by decide +kernel
theorem dM_chain_155 : decode mM_chain.2.1 155 = .ok (.aload_n 0, 1) := by decide +kernel
theorem dM_chain_156 : decode mM_chain.2.1 156 = .ok (.getfield 34, 3) := by decide +kernel
theorem dM_chain_159 : decode mM_chain.2.1 159 = .ok (.iload 4, 2) := by decide +kernel
theorem dM_chain_161 : decode mM_chain.2.1 161 = .ok (.iaload, 1) := by decide +kernel
theorem dM_chain_162 : decode mM_chain.2.1 162 = .ok (.if_icmp .ne 7, 3) := by decide +kernel
theorem dM_chain_165 : decode mM_chain.2.1 165 = .ok (.iconst 1, 1) := by decide +kernel
theorem dM_chain_166 : decode mM_chain.2.1 166 = .ok (.goto 4, 3) := by decide +kernel
theorem dM_chain_169 : decode mM_chain.2.1 169 = .ok (.iconst 0, 1) := by decide +kernel
theorem dM_chain_170 : decode mM_chain.2.1 170 = .ok (.istore 9, 2) := by decide +kernel
theorem dM_chain_172 : decode mM_chain.2.1 172 = .ok (.iload 9, 2) := by decide +kernel
theorem dM_chain_174 : decode mM_chain.2.1 174 = .ok (.ifCond .eq 20, 3) := by decide +kernel
theorem dM_chain_177 : decode mM_chain.2.1 177 = .ok (.iload 6, 2) := by decide +kernel
theorem dM_chain_179 : decode mM_chain.2.1 179 = .ok (.ifCond .lt 10, 3) := by decide +kernel
theorem dM_chain_182 : decode mM_chain.2.1 182 = .ok (.iload 8, 2) := by decide +kernel
theorem dM_chain_184 : decode mM_chain.2.1 184 = .ok (.iload 6, 2) := by decide +kernel
theorem dM_chain_186 : decode mM_chain.2.1 186 = .ok (.if_icmp .ge 8, 3) := by decide +kernel
theorem dM_chain_189 : decode mM_chain.2.1 189 = .ok (.iload 8, 2) := by decide +kernel
theorem dM_chain_191 : decode mM_chain.2.1 191 = .ok (.goto 5, 3) := by decide +kernel
theorem dM_chain_194 : decode mM_chain.2.1 194 = .ok (.iload 6, 2) := by decide +kernel
theorem dM_chain_196 : decode mM_chain.2.1 196 = .ok (.istore 6, 2) := by decide +kernel
theorem dM_chain_198 : decode mM_chain.2.1 198 = .ok (.iinc 7 1, 3) := by decide +kernel
theorem dM_chain_201 : decode mM_chain.2.1 201 = .ok (.goto (-112), 3) := by decide +kernel
theorem dM_chain_204 : decode mM_chain.2.1 204 = .ok (.iload 6, 2) := by decide +kernel
theorem dM_chain_206 : decode mM_chain.2.1 206 = .ok (.istore 4, 2) := by decide +kernel
theorem dM_chain_208 : decode mM_chain.2.1 208 = .ok (.iinc 5 1, 3) := by decide +kernel
theorem dM_chain_211 : decode mM_chain.2.1 211 = .ok (.goto (-139), 3) := by decide +kernel
theorem dM_chain_214 : decode mM_chain.2.1 214 = .ok (.iload 4, 2) := by decide +kernel
theorem dM_chain_216 : decode mM_chain.2.1 216 = .ok (.ifCond .ge 12, 3) := by decide +kernel
theorem dM_chain_219 : decode mM_chain.2.1 219 = .ok (.aload_n 0, 1) := by decide +kernel
theorem dM_chain_220 : decode mM_chain.2.1 220 = .ok (.ldc 114, 2) := by decide +kernel
theorem dM_chain_222 : decode mM_chain.2.1 222 = .ok (.invokevirtual 79, 3) := by decide +kernel
theorem dM_chain_225 : decode mM_chain.2.1 225 = .ok (.goto 5, 3) := by decide +kernel
theorem dM_chain_228 : decode mM_chain.2.1 228 = .ok (.iload 4, 2) := by decide +kernel
theorem dM_chain_230 : decode mM_chain.2.1 230 = .ok (.ireturn, 1) := by decide +kernel
theorem dM_one_0 : decode mM_one.2.1 0 = .ok (.aload_n 0, 1) := by decide +kernel
theorem dM_one_1 : decode mM_one.2.1 1 = .ok (.iload_n 1, 1) := by decide +kernel
theorem dM_one_2 : decode mM_one.2.1 2 = .ok (.iconst 4, 1) := by decide +kernel
theorem dM_one_3 : decode mM_one.2.1 3 = .ok (.invokevirtual 84, 3) := by decide +kernel
theorem dM_one_6 : decode mM_one.2.1 6 = .ok (.ifCond .eq 10, 3) := by decide +kernel
theorem dM_one_9 : decode mM_one.2.1 9 = .ok (.iload_n 2, 1) := by decide +kernel
theorem dM_one_10 : decode mM_one.2.1 10 = .ok (.invokestatic 128, 3) := by decide +kernel
theorem dM_one_13 : decode mM_one.2.1 13 = .ok (.ifCond .ne 10, 3) := by decide +kernel
theorem dM_one_16 : decode mM_one.2.1 16 = .ok (.aload_n 0, 1) := by decide +kernel
theorem dM_one_17 : decode mM_one.2.1 17 = .ok (.ldc 78, 2) := by decide +kernel
theorem dM_one_19 : decode mM_one.2.1 19 = .ok (.invokevirtual 79, 3) := by decide +kernel
theorem dM_one_22 : decode mM_one.2.1 22 = .ok (.ireturn, 1) := by decide +kernel
theorem dM_one_23 : decode mM_one.2.1 23 = .ok (.aload_n 0, 1) := by decide +kernel
theorem dM_one_24 : decode mM_one.2.1 24 = .ok (.iload_n 2, 1) := by decide +kernel
theorem dM_one_25 : decode mM_one.2.1 25 = .ok (.invokevirtual 132, 3) := by decide +kernel
theorem dM_one_28 : decode mM_one.2.1 28 = .ok (.istore_n 3, 1) := by decide +kernel
theorem dM_one_29 : decode mM_one.2.1 29 = .ok (.iload_n 3, 1) := by decide +kernel
theorem dM_one_30 : decode mM_one.2.1 30 = .ok (.iload_n 1, 1) := by decide +kernel
theorem dM_one_31 : decode mM_one.2.1 31 = .ok (.invokestatic 102, 3) := by decide +kernel
theorem dM_one_34 : decode mM_one.2.1 34 = .ok (.ifCond .eq 12, 3) := by decide +kernel
theorem dM_one_37 : decode mM_one.2.1 37 = .ok (.aload_n 0, 1) := by decide +kernel
theorem dM_one_38 : decode mM_one.2.1 38 = .ok (.iload_n 3, 1) := by decide +kernel
theorem dM_one_39 : decode mM_one.2.1 39 = .ok (.iload_n 1, 1) := by decide +kernel
theorem dM_one_40 : decode mM_one.2.1 40 = .ok (.invokevirtual 176, 3) := by decide +kernel
theorem dM_one_43 : decode mM_one.2.1 43 = .ok (.goto 9, 3) := by decide +kernel
theorem dM_one_46 : decode mM_one.2.1 46 = .ok (.aload_n 0, 1) := by decide +kernel
theorem dM_one_47 : decode mM_one.2.1 47 = .ok (.ldc 114, 2) := by decide +kernel
theorem dM_one_49 : decode mM_one.2.1 49 = .ok (.invokevirtual 79, 3) := by decide +kernel
theorem dM_one_52 : decode mM_one.2.1 52 = .ok (.ireturn, 1) := by decide +kernel
theorem dM_step_0 : decode mM_step.2.1 0 = .ok (.iconst 0, 1) := by decide +kernel
theorem dM_step_1 : decode mM_step.2.1 1 = .ok (.istore_n 3, 1) := by decide +kernel
theorem dM_step_2 : decode mM_step.2.1 2 = .ok (.iconst 0, 1) := by decide +kernel
theorem dM_step_3 : decode mM_step.2.1 3 = .ok (.istore 4, 2) := by decide +kernel
theorem dM_step_5 : decode mM_step.2.1 5 = .ok (.iload 4, 2) := by decide +kernel
theorem dM_step_7 : decode mM_step.2.1 7 = .ok (.aload_n 0, 1) := by decide +kernel
theorem dM_step_8 : decode mM_step.2.1 8 = .ok (.getfield 9, 3) := by decide +kernel
theorem dM_step_11 : decode mM_step.2.1 11 = .ok (.iconst 4, 1) := by decide +kernel
theorem dM_step_12 : decode mM_step.2.1 12 = .ok (.iaload, 1) := by decide +kernel
theorem dM_step_13 : decode mM_step.2.1 13 = .ok (.if_icmp .ge 39, 3) := by decide +kernel
theorem dM_step_16 : decode mM_step.2.1 16 = .ok (.iload_n 3, 1) := by decide +kernel
theorem dM_step_17 : decode mM_step.2.1 17 = .ok (.iload_n 1, 1) := by decide +kernel
theorem dM_step_18 : decode mM_step.2.1 18 = .ok (.iload 4, 2) := by decide +kernel
theorem dM_step_20 : decode mM_step.2.1 20 = .ok (.invokestatic 102, 3) := by decide +kernel
theorem dM_step_23 : decode mM_step.2.1 23 = .ok (.ifCond .eq 20, 3) := by decide +kernel
theorem dM_step_26 : decode mM_step.2.1 26 = .ok (.aload_n 0, 1) := by decide +kernel
theorem dM_step_27 : decode mM_step.2.1 27 = .ok (.iload 4, 2) := by decide +kernel
theorem dM_step_29 : decode mM_step.2.1 29 = .ok (.iload_n 2, 1) := by decide +kernel
theorem dM_step_30 : decode mM_step.2.1 30 = .ok (.invokevirtual 173, 3) := by decide +kernel
theorem dM_step_33 : decode mM_step.2.1 33 = .ok (.ifCond .eq 10, 3) := by decide +kernel
theorem dM_step_36 : decode mM_step.2.1 36 = .ok (.iconst 1, 1) := by decide +kernel
theorem dM_step_37 : decode mM_step.2.1 37 = .ok (.iload 4, 2) := by decide +kernel
theorem dM_step_39 : decode mM_step.2.1 39 = .ok (.ishl, 1) := by decide +kernel
theorem dM_step_40 : decode mM_step.2.1 40 = .ok (.goto 4, 3) := by decide +kernel
theorem dM_step_43 : decode mM_step.2.1 43 = .ok (.iconst 0, 1) := by decide +kernel
theorem dM_step_44 : decode mM_step.2.1 44 = .ok (.ior, 1) := by decide +kernel
theorem dM_step_45 : decode mM_step.2.1 45 = .ok (.istore_n 3, 1) := by decide +kernel
theorem dM_step_46 : decode mM_step.2.1 46 = .ok (.iinc 4 1, 3) := by decide +kernel
theorem dM_step_49 : decode mM_step.2.1 49 = .ok (.goto (-44), 3) := by decide +kernel
theorem dM_step_52 : decode mM_step.2.1 52 = .ok (.aload_n 0, 1) := by decide +kernel
theorem dM_step_53 : decode mM_step.2.1 53 = .ok (.iload_n 3, 1) := by decide +kernel
theorem dM_step_54 : decode mM_step.2.1 54 = .ok (.iconst 1, 1) := by decide +kernel
theorem dM_step_55 : decode mM_step.2.1 55 = .ok (.iload_n 2, 1) := by decide +kernel
theorem dM_step_56 : decode mM_step.2.1 56 = .ok (.ishl, 1) := by decide +kernel
theorem dM_step_57 : decode mM_step.2.1 57 = .ok (.ior, 1) := by decide +kernel
theorem dM_step_58 : decode mM_step.2.1 58 = .ok (.invokevirtual 162, 3) := by decide +kernel
theorem dM_step_61 : decode mM_step.2.1 61 = .ok (.aload_n 0, 1) := by decide +kernel
theorem dM_step_62 : decode mM_step.2.1 62 = .ok (.iload_n 3, 1) := by decide +kernel
theorem dM_step_63 : decode mM_step.2.1 63 = .ok (.invokevirtual 162, 3) := by decide +kernel
theorem dM_step_66 : decode mM_step.2.1 66 = .ok (.isub, 1) := by decide +kernel
theorem dM_step_67 : decode mM_step.2.1 67 = .ok (.ireturn, 1) := by decide +kernel
theorem dM_isAhead_0 : decode mM_isAhead.2.1 0 = .ok (.aload_n 0, 1) := by decide +kernel
theorem dM_isAhead_1 : decode mM_isAhead.2.1 1 = .ok (.iload_n 1, 1) := by decide +kernel
theorem dM_isAhead_2 : decode mM_isAhead.2.1 2 = .ok (.iconst 2, 1) := by decide +kernel
theorem dM_isAhead_3 : decode mM_isAhead.2.1 3 = .ok (.invokevirtual 123, 3) := by decide +kernel
theorem dM_isAhead_6 : decode mM_isAhead.2.1 6 = .ok (.aload_n 0, 1) := by decide +kernel
theorem dM_isAhead_7 : decode mM_isAhead.2.1 7 = .ok (.iload_n 2, 1) := by decide +kernel
theorem dM_isAhead_8 : decode mM_isAhead.2.1 8 = .ok (.iconst 2, 1) := by decide +kernel
theorem dM_isAhead_9 : decode mM_isAhead.2.1 9 = .ok (.invokevirtual 123, 3) := by decide +kernel
theorem dM_isAhead_12 : decode mM_isAhead.2.1 12 = .ok (.if_icmp .lt 23, 3) := by decide +kernel
theorem dM_isAhead_15 : decode mM_isAhead.2.1 15 = .ok (.aload_n 0, 1) := by decide +kernel
theorem dM_isAhead_16 : decode mM_isAhead.2.1 16 = .ok (.iload_n 1, 1) := by decide +kernel
theorem dM_isAhead_17 : decode mM_isAhead.2.1 17 = .ok (.iconst 2, 1) := by decide +kernel
theorem dM_isAhead_18 : decode mM_isAhead.2.1 18 = .ok (.invokevirtual 123, 3) := by decide +kernel
theorem dM_isAhead_21 : decode mM_isAhead.2.1 21 = .ok (.aload_n 0, 1) := by decide +kernel
theorem dM_isAhead_22 : decode mM_isAhead.2.1 22 = .ok (.iload_n 2, 1) := by decide +kernel
theorem dM_isAhead_23 : decode mM_isAhead.2.1 23 = .ok (.iconst 2, 1) := by decide +kernel
theorem dM_isAhead_24 : decode mM_isAhead.2.1 24 = .ok (.invokevirtual 123, 3) := by decide +kernel
theorem dM_isAhead_27 : decode mM_isAhead.2.1 27 = .ok (.if_icmp .ne 12, 3) := by decide +kernel
theorem dM_isAhead_30 : decode mM_isAhead.2.1 30 = .ok (.iload_n 1, 1) := by decide +kernel
theorem dM_isAhead_31 : decode mM_isAhead.2.1 31 = .ok (.iload_n 2, 1) := by decide +kernel
theorem dM_isAhead_32 : decode mM_isAhead.2.1 32 = .ok (.if_icmp .ge 7, 3) := by decide +kernel
theorem dM_isAhead_35 : decode mM_isAhead.2.1 35 = .ok (.iconst 1, 1) := by decide +kernel
theorem dM_isAhead_36 : decode mM_isAhead.2.1 36 = .ok (.goto 4, 3) := by decide +kernel
theorem dM_isAhead_39 : decode mM_isAhead.2.1 39 = .ok (.iconst 0, 1) := by decide +kernel
theorem dM_isAhead_40 : decode mM_isAhead.2.1 40 = .ok (.ireturn, 1) := by decide +kernel
theorem dM_without_0 : decode mM_without.2.1 0 = .ok (.aload_n 0, 1) := by decide +kernel
theorem dM_without_1 : decode mM_without.2.1 1 = .ok (.iload_n 1, 1) := by decide +kernel
theorem dM_without_2 : decode mM_without.2.1 2 = .ok (.iconst 4, 1) := by decide +kernel
theorem dM_without_3 : decode mM_without.2.1 3 = .ok (.invokevirtual 84, 3) := by decide +kernel
theorem dM_without_6 : decode mM_without.2.1 6 = .ok (.ifCond .eq 10, 3) := by decide +kernel
theorem dM_without_9 : decode mM_without.2.1 9 = .ok (.iload_n 2, 1) := by decide +kernel
theorem dM_without_10 : decode mM_without.2.1 10 = .ok (.invokestatic 128, 3) := by decide +kernel
theorem dM_without_13 : decode mM_without.2.1 13 = .ok (.ifCond .ne 10, 3) := by decide +kernel
theorem dM_without_16 : decode mM_without.2.1 16 = .ok (.aload_n 0, 1) := by decide +kernel
theorem dM_without_17 : decode mM_without.2.1 17 = .ok (.ldc 78, 2) := by decide +kernel
theorem dM_without_19 : decode mM_without.2.1 19 = .ok (.invokevirtual 79, 3) := by decide +kernel
theorem dM_without_22 : decode mM_without.2.1 22 = .ok (.ireturn, 1) := by decide +kernel
theorem dM_without_23 : decode mM_without.2.1 23 = .ok (.aload_n 0, 1) := by decide +kernel
theorem dM_without_24 : decode mM_without.2.1 24 = .ok (.iload_n 2, 1) := by decide +kernel
theorem dM_without_25 : decode mM_without.2.1 25 = .ok (.invokevirtual 132, 3) := by decide +kernel
theorem dM_without_28 : decode mM_without.2.1 28 = .ok (.istore_n 3, 1) := by decide +kernel
theorem dM_without_29 : decode mM_without.2.1 29 = .ok (.iload_n 3, 1) := by decide +kernel
theorem dM_without_30 : decode mM_without.2.1 30 = .ok (.iload_n 1, 1) := by decide +kernel
theorem dM_without_31 : decode mM_without.2.1 31 = .ok (.invokestatic 102, 3) := by decide +kernel
theorem dM_without_34 : decode mM_without.2.1 34 = .ok (.ifCond .eq 21, 3) := by decide +kernel
theorem dM_without_37 : decode mM_without.2.1 37 = .ok (.aload_n 0, 1) := by decide +kernel
theorem dM_without_38 : decode mM_without.2.1 38 = .ok (.iload_n 3, 1) := by decide +kernel
theorem dM_without_39 : decode mM_without.2.1 39 = .ok (.invokevirtual 162, 3) := by decide +kernel
theorem dM_without_42 : decode mM_without.2.1 42 = .ok (.aload_n 0, 1) := by decide +kernel
theorem dM_without_43 : decode mM_without.2.1 43 = .ok (.iload_n 3, 1) := by decide +kernel
theorem dM_without_44 : decode mM_without.2.1 44 = .ok (.iconst 1, 1) := by decide +kernel
theorem dM_without_45 : decode mM_without.2.1 45 = .ok (.iload_n 1, 1) := by decide +kernel
theorem dM_without_46 : decode mM_without.2.1 46 = .ok (.ishl, 1) := by decide +kernel
theorem dM_without_47 : decode mM_without.2.1 47 = .ok (.ixor, 1) := by decide +kernel
theorem dM_without_48 : decode mM_without.2.1 48 = .ok (.invokevirtual 162, 3) := by decide +kernel
theorem dM_without_51 : decode mM_without.2.1 51 = .ok (.isub, 1) := by decide +kernel
theorem dM_without_52 : decode mM_without.2.1 52 = .ok (.goto 9, 3) := by decide +kernel
theorem dM_without_55 : decode mM_without.2.1 55 = .ok (.aload_n 0, 1) := by decide +kernel
theorem dM_without_56 : decode mM_without.2.1 56 = .ok (.ldc 114, 2) := by decide +kernel
theorem dM_without_58 : decode mM_without.2.1 58 = .ok (.invokevirtual 79, 3) := by decide +kernel
theorem dM_without_61 : decode mM_without.2.1 61 = .ok (.ireturn, 1) := by decide +kernel
theorem dM_butFor_0 : decode mM_butFor.2.1 0 = .ok (.iload_n 1, 1) := by decide +kernel
theorem dM_butFor_1 : decode mM_butFor.2.1 1 = .ok (.i2l, 1) := by decide +kernel
theorem dM_butFor_2 : decode mM_butFor.2.1 2 = .ok (.lconst 0, 1) := by decide +kernel
theorem dM_butFor_3 : decode mM_butFor.2.1 3 = .ok (.ldc2_w 72, 3) := by decide +kernel
theorem dM_butFor_6 : decode mM_butFor.2.1 6 = .ok (.invokestatic 68, 3) := by decide +kernel
theorem dM_butFor_9 : decode mM_butFor.2.1 9 = .ok (.ifCond .eq 10, 3) := by decide +kernel
theorem dM_butFor_12 : decode mM_butFor.2.1 12 = .ok (.iload_n 2, 1) := by decide +kernel
theorem dM_butFor_13 : decode mM_butFor.2.1 13 = .ok (.invokestatic 128, 3) := by decide +kernel
theorem dM_butFor_16 : decode mM_butFor.2.1 16 = .ok (.ifCond .ne 10, 3) := by decide +kernel
theorem dM_butFor_19 : decode mM_butFor.2.1 19 = .ok (.aload_n 0, 1) := by decide +kernel
theorem dM_butFor_20 : decode mM_butFor.2.1 20 = .ok (.ldc 78, 2) := by decide +kernel
theorem dM_butFor_22 : decode mM_butFor.2.1 22 = .ok (.invokevirtual 79, 3) := by decide +kernel
theorem dM_butFor_25 : decode mM_butFor.2.1 25 = .ok (.ireturn, 1) := by decide +kernel
theorem dM_butFor_26 : decode mM_butFor.2.1 26 = .ok (.aload_n 0, 1) := by decide +kernel
theorem dM_butFor_27 : decode mM_butFor.2.1 27 = .ok (.iload_n 2, 1) := by decide +kernel
theorem dM_butFor_28 : decode mM_butFor.2.1 28 = .ok (.invokevirtual 132, 3) := by decide +kernel
theorem dM_butFor_31 : decode mM_butFor.2.1 31 = .ok (.istore_n 3, 1) := by decide +kernel
theorem dM_butFor_32 : decode mM_butFor.2.1 32 = .ok (.iconst 0, 1) := by decide +kernel
theorem dM_butFor_33 : decode mM_butFor.2.1 33 = .ok (.istore 4, 2) := by decide +kernel
theorem dM_butFor_35 : decode mM_butFor.2.1 35 = .ok (.iconst 0, 1) := by decide +kernel
theorem dM_butFor_36 : decode mM_butFor.2.1 36 = .ok (.istore 5, 2) := by decide +kernel
theorem dM_butFor_38 : decode mM_butFor.2.1 38 = .ok (.iload 5, 2) := by decide +kernel
theorem dM_butFor_40 : decode mM_butFor.2.1 40 = .ok (.aload_n 0, 1) := by decide +kernel
theorem dM_butFor_41 : decode mM_butFor.2.1 41 = .ok (.getfield 9, 3) := by decide +kernel
theorem dM_butFor_44 : decode mM_butFor.2.1 44 = .ok (.iconst 4, 1) := by decide +kernel
theorem dM_butFor_45 : decode mM_butFor.2.1 45 = .ok (.iaload, 1) := by decide +kernel
theorem dM_butFor_46 : decode mM_butFor.2.1 46 = .ok (.if_icmp .ge 42, 3) := by decide +kernel
theorem dM_butFor_49 : decode mM_butFor.2.1 49 = .ok (.iload 4, 2) := by decide +kernel
theorem dM_butFor_51 : decode mM_butFor.2.1 51 = .ok (.iload_n 3, 1) := by decide +kernel
theorem dM_butFor_52 : decode mM_butFor.2.1 52 = .ok (.iload 5, 2) := by decide +kernel
theorem dM_butFor_54 : decode mM_butFor.2.1 54 = .ok (.invokestatic 102, 3) := by decide +kernel
theorem dM_butFor_57 : decode mM_butFor.2.1 57 = .ok (.ifCond .eq 21, 3) := by decide +kernel
theorem dM_butFor_60 : decode mM_butFor.2.1 60 = .ok (.aload_n 0, 1) := by decide +kernel
theorem dM_butFor_61 : decode mM_butFor.2.1 61 = .ok (.iload 5, 2) := by decide +kernel
theorem dM_butFor_63 : decode mM_butFor.2.1 63 = .ok (.iconst 1, 1) := by decide +kernel
theorem dM_butFor_64 : decode mM_butFor.2.1 64 = .ok (.invokevirtual 123, 3) := by decide +kernel
theorem dM_butFor_67 : decode mM_butFor.2.1 67 = .ok (.iload_n 1, 1) := by decide +kernel
theorem dM_butFor_68 : decode mM_butFor.2.1 68 = .ok (.if_icmp .eq 10, 3) := by decide +kernel
theorem dM_butFor_71 : decode mM_butFor.2.1 71 = .ok (.iconst 1, 1) := by decide +kernel
theorem dM_butFor_72 : decode mM_butFor.2.1 72 = .ok (.iload 5, 2) := by decide +kernel
theorem dM_butFor_74 : decode mM_butFor.2.1 74 = .ok (.ishl, 1) := by decide +kernel
theorem dM_butFor_75 : decode mM_butFor.2.1 75 = .ok (.goto 4, 3) := by decide +kernel
theorem dM_butFor_78 : decode mM_butFor.2.1 78 = .ok (.iconst 0, 1) := by decide +kernel
theorem dM_butFor_79 : decode mM_butFor.2.1 79 = .ok (.ior, 1) := by decide +kernel
theorem dM_butFor_80 : decode mM_butFor.2.1 80 = .ok (.istore 4, 2) := by decide +kernel
theorem dM_butFor_82 : decode mM_butFor.2.1 82 = .ok (.iinc 5 1, 3) := by decide +kernel
theorem dM_butFor_85 : decode mM_butFor.2.1 85 = .ok (.goto (-47), 3) := by decide +kernel
theorem dM_butFor_88 : decode mM_butFor.2.1 88 = .ok (.aload_n 0, 1) := by decide +kernel
theorem dM_butFor_89 : decode mM_butFor.2.1 89 = .ok (.iload_n 3, 1) := by decide +kernel
theorem dM_butFor_90 : decode mM_butFor.2.1 90 = .ok (.invokevirtual 162, 3) := by decide +kernel
theorem dM_butFor_93 : decode mM_butFor.2.1 93 = .ok (.aload_n 0, 1) := by decide +kernel
theorem dM_butFor_94 : decode mM_butFor.2.1 94 = .ok (.iload 4, 2) := by decide +kernel
theorem dM_butFor_96 : decode mM_butFor.2.1 96 = .ok (.invokevirtual 162, 3) := by decide +kernel
theorem dM_butFor_99 : decode mM_butFor.2.1 99 = .ok (.isub, 1) := by decide +kernel
theorem dM_butFor_100 : decode mM_butFor.2.1 100 = .ok (.ireturn, 1) := by decide +kernel
theorem dM_window_0 : decode mM_window.2.1 0 = .ok (.iload_n 1, 1) := by decide +kernel
theorem dM_window_1 : decode mM_window.2.1 1 = .ok (.i2l, 1) := by decide +kernel
theorem dM_window_2 : decode mM_window.2.1 2 = .ok (.ldc2_w 74, 3) := by decide +kernel
theorem dM_window_5 : decode mM_window.2.1 5 = .ok (.ldc2_w 179, 3) := by decide +kernel
theorem dM_window_8 : decode mM_window.2.1 8 = .ok (.invokestatic 68, 3) := by decide +kernel
theorem dM_window_11 : decode mM_window.2.1 11 = .ok (.ifCond .eq 37, 3) := by decide +kernel
theorem dM_window_14 : decode mM_window.2.1 14 = .ok (.iload_n 2, 1) := by decide +kernel
theorem dM_window_15 : decode mM_window.2.1 15 = .ok (.i2l, 1) := by decide +kernel
theorem dM_window_16 : decode mM_window.2.1 16 = .ok (.lconst 0, 1) := by decide +kernel
theorem dM_window_17 : decode mM_window.2.1 17 = .ok (.ldc2_w 181, 3) := by decide +kernel
theorem dM_window_20 : decode mM_window.2.1 20 = .ok (.invokestatic 68, 3) := by decide +kernel
theorem dM_window_23 : decode mM_window.2.1 23 = .ok (.ifCond .eq 25, 3) := by decide +kernel
theorem dM_window_26 : decode mM_window.2.1 26 = .ok (.iload_n 3, 1) := by decide +kernel
theorem dM_window_27 : decode mM_window.2.1 27 = .ok (.i2l, 1) := by decide +kernel
theorem dM_window_28 : decode mM_window.2.1 28 = .ok (.ldc2_w 183, 3) := by decide +kernel
theorem dM_window_31 : decode mM_window.2.1 31 = .ok (.ldc2_w 72, 3) := by decide +kernel
theorem dM_window_34 : decode mM_window.2.1 34 = .ok (.invokestatic 68, 3) := by decide +kernel
theorem dM_window_37 : decode mM_window.2.1 37 = .ok (.ifCond .eq 11, 3) := by decide +kernel
theorem dM_window_40 : decode mM_window.2.1 40 = .ok (.iload 4, 2) := by decide +kernel
theorem dM_window_42 : decode mM_window.2.1 42 = .ok (.invokestatic 128, 3) := by decide +kernel
theorem dM_window_45 : decode mM_window.2.1 45 = .ok (.ifCond .ne 10, 3) := by decide +kernel
theorem dM_window_48 : decode mM_window.2.1 48 = .ok (.aload_n 0, 1) := by decide +kernel
theorem dM_window_49 : decode mM_window.2.1 49 = .ok (.ldc 78, 2) := by decide +kernel
theorem dM_window_51 : decode mM_window.2.1 51 = .ok (.invokevirtual 79, 3) := by decide +kernel
theorem dM_window_54 : decode mM_window.2.1 54 = .ok (.ireturn, 1) := by decide +kernel
theorem dM_window_55 : decode mM_window.2.1 55 = .ok (.aload_n 0, 1) := by decide +kernel
theorem dM_window_56 : decode mM_window.2.1 56 = .ok (.iload 4, 2) := by decide +kernel
theorem dM_window_58 : decode mM_window.2.1 58 = .ok (.invokevirtual 132, 3) := by decide +kernel
theorem dM_window_61 : decode mM_window.2.1 61 = .ok (.istore 5, 2) := by decide +kernel
theorem dM_window_63 : decode mM_window.2.1 63 = .ok (.iconst 0, 1) := by decide +kernel
theorem dM_window_64 : decode mM_window.2.1 64 = .ok (.istore 6, 2) := by decide +kernel
theorem dM_window_66 : decode mM_window.2.1 66 = .ok (.iconst 0, 1) := by decide +kernel
theorem dM_window_67 : decode mM_window.2.1 67 = .ok (.istore 7, 2) := by decide +kernel
theorem dM_window_69 : decode mM_window.2.1 69 = .ok (.iconst 0, 1) := by decide +kernel
theorem dM_window_70 : decode mM_window.2.1 70 = .ok (.istore 8, 2) := by decide +kernel
theorem dM_window_72 : decode mM_window.2.1 72 = .ok (.iconst 0, 1) := by decide +kernel
theorem dM_window_73 : decode mM_window.2.1 73 = .ok (.istore 9, 2) := by decide +kernel
theorem dM_window_75 : decode mM_window.2.1 75 = .ok (.iload 9, 2) := by decide +kernel
theorem dM_window_77 : decode mM_window.2.1 77 = .ok (.iconst 4, 1) := by decide +kernel
theorem dM_window_78 : decode mM_window.2.1 78 = .ok (.if_icmp .ge 17, 3) := by decide +kernel
theorem dM_window_81 : decode mM_window.2.1 81 = .ok (.aload_n 0, 1) := by decide +kernel
theorem dM_window_82 : decode mM_window.2.1 82 = .ok (.getfield 46, 3) := by decide +kernel
theorem dM_window_85 : decode mM_window.2.1 85 = .ok (.iload 9, 2) := by decide +kernel
theorem dM_window_87 : decode mM_window.2.1 87 = .ok (.iconst 0, 1) := by decide +kernel
theorem dM_window_88 : decode mM_window.2.1 88 = .ok (.iastore, 1) := by decide +kernel
theorem dM_window_89 : decode mM_window.2.1 89 = .ok (.iinc 9 1, 3) := by decide +kernel
theorem dM_window_92 : decode mM_window.2.1 92 = .ok (.goto (-17), 3) := by decide +kernel
theorem dM_window_95 : decode mM_window.2.1 95 = .ok (.iconst 0, 1) := by decide +kernel
theorem dM_window_96 : decode mM_window.2.1 96 = .ok (.istore 9, 2) := by decide +kernel
theorem dM_window_98 : decode mM_window.2.1 98 = .ok (.iload 9, 2) := by decide +kernel
theorem dM_window_100 : decode mM_window.2.1 100 = .ok (.aload_n 0, 1) := by decide +kernel
theorem dM_window_101 : decode mM_window.2.1 101 = .ok (.getfield 9, 3) := by decide +kernel
theorem dM_window_104 : decode mM_window.2.1 104 = .ok (.iconst 4, 1) := by decide +kernel
theorem dM_window_105 : decode mM_window.2.1 105 = .ok (.iaload, 1) := by decide +kernel
theorem dM_window_106 : decode mM_window.2.1 106 = .ok (.if_icmp .ge 102, 3) := by decide +kernel
theorem dM_window_109 : decode mM_window.2.1 109 = .ok (.iload 5, 2) := by decide +kernel
theorem dM_window_111 : decode mM_window.2.1 111 = .ok (.iload 9, 2) := by decide +kernel
theorem dM_window_113 : decode mM_window.2.1 113 = .ok (.invokestatic 102, 3) := by decide +kernel
theorem dM_window_116 : decode mM_window.2.1 116 = .ok (.ifCond .eq 86, 3) := by decide +kernel
theorem dM_window_119 : decode mM_window.2.1 119 = .ok (.aload_n 0, 1) := by decide +kernel
theorem dM_window_120 : decode mM_window.2.1 120 = .ok (.iload 9, 2) := by decide +kernel
theorem dM_window_122 : decode mM_window.2.1 122 = .ok (.iconst 2, 1) := by decide +kernel
theorem dM_window_123 : decode mM_window.2.1 123 = .ok (.invokevirtual 123, 3) := by decide +kernel
theorem dM_window_126 : decode mM_window.2.1 126 = .ok (.iload_n 2, 1) := by decide +kernel
theorem dM_window_127 : decode mM_window.2.1 127 = .ok (.iload_n 1, 1) := by decide +kernel
theorem dM_window_128 : decode mM_window.2.1 128 = .ok (.imul, 1) := by decide +kernel
theorem dM_window_129 : decode mM_window.2.1 129 = .ok (.iload_n 1, 1) := by decide +kernel
theorem dM_window_130 : decode mM_window.2.1 130 = .ok (.iadd, 1) := by decide +kernel
theorem dM_window_131 : decode mM_window.2.1 131 = .ok (.if_icmp .ge 71, 3) := by decide +kernel
theorem dM_window_134 : decode mM_window.2.1 134 = .ok (.iload 6, 2) := by decide +kernel
theorem dM_window_136 : decode mM_window.2.1 136 = .ok (.iconst 1, 1) := by decide +kernel
theorem dM_window_137 : decode mM_window.2.1 137 = .ok (.iload 9, 2) := by decide +kernel
theorem dM_window_139 : decode mM_window.2.1 139 = .ok (.ishl, 1) := by decide +kernel
theorem dM_window_140 : decode mM_window.2.1 140 = .ok (.ior, 1) := by decide +kernel
theorem dM_window_141 : decode mM_window.2.1 141 = .ok (.istore 6, 2) := by decide +kernel
theorem dM_window_143 : decode mM_window.2.1 143 = .ok (.aload_n 0, 1) := by decide +kernel
theorem dM_window_144 : decode mM_window.2.1 144 = .ok (.iload 9, 2) := by decide +kernel
theorem dM_window_146 : decode mM_window.2.1 146 = .ok (.iconst 2, 1) := by decide +kernel
theorem dM_window_147 : decode mM_window.2.1 147 = .ok (.invokevirtual 123, 3) := by decide +kernel
theorem dM_window_150 : decode mM_window.2.1 150 = .ok (.iload_n 2, 1) := by decide +kernel
theorem dM_window_151 : decode mM_window.2.1 151 = .ok (.iload_n 1, 1) := by decide +kernel
theorem dM_window_152 : decode mM_window.2.1 152 = .ok (.imul, 1) := by decide +kernel
theorem dM_window_153 : decode mM_window.2.1 153 = .ok (.if_icmp .ge 15, 3) := by decide +kernel
theorem dM_window_156 : decode mM_window.2.1 156 = .ok (.iload 7, 2) := by decide +kernel
theorem dM_window_158 : decode mM_window.2.1 158 = .ok (.iconst 1, 1) := by decide +kernel
theorem dM_window_159 : decode mM_window.2.1 159 = .ok (.iload 9, 2) := by decide +kernel
theorem dM_window_161 : decode mM_window.2.1 161 = .ok (.ishl, 1) := by decide +kernel
theorem dM_window_162 : decode mM_window.2.1 162 = .ok (.ior, 1) := by decide +kernel
theorem dM_window_163 : decode mM_window.2.1 163 = .ok (.istore 7, 2) := by decide +kernel
theorem dM_window_165 : decode mM_window.2.1 165 = .ok (.goto 37, 3) := by decide +kernel
theorem dM_window_168 : decode mM_window.2.1 168 = .ok (.aload_n 0, 1) := by decide +kernel
theorem dM_window_169 : decode mM_window.2.1 169 = .ok (.getfield 46, 3) := by decide +kernel
theorem dM_window_172 : decode mM_window.2.1 172 = .ok (.aload_n 0, 1) := by decide +kernel
theorem dM_window_173 : decode mM_window.2.1 173 = .ok (.iload 9, 2) := by decide +kernel
theorem dM_window_175 : decode mM_window.2.1 175 = .ok (.iconst 1, 1) := by decide +kernel
theorem dM_window_176 : decode mM_window.2.1 176 = .ok (.invokevirtual 123, 3) := by decide +kernel
theorem dM_window_179 : decode mM_window.2.1 179 = .ok (.dup2, 1) := by decide +kernel
theorem dM_window_180 : decode mM_window.2.1 180 = .ok (.iaload, 1) := by decide +kernel
theorem dM_window_181 : decode mM_window.2.1 181 = .ok (.aload_n 0, 1) := by decide +kernel
theorem dM_window_182 : decode mM_window.2.1 182 = .ok (.iload 9, 2) := by decide +kernel
theorem dM_window_184 : decode mM_window.2.1 184 = .ok (.iconst 3, 1) := by decide +kernel
theorem dM_window_185 : decode mM_window.2.1 185 = .ok (.invokevirtual 123, 3) := by decide +kernel
theorem dM_window_188 : decode mM_window.2.1 188 = .ok (.iadd, 1) := by decide +kernel
theorem dM_window_189 : decode mM_window.2.1 189 = .ok (.iastore, 1) := by decide +kernel
theorem dM_window_190 : decode mM_window.2.1 190 = .ok (.iload 8, 2) := by decide +kernel
theorem dM_window_192 : decode mM_window.2.1 192 = .ok (.aload_n 0, 1) := by decide +kernel
theorem dM_window_193 : decode mM_window.2.1 193 = .ok (.iload 9, 2) := by decide +kernel
theorem dM_window_195 : decode mM_window.2.1 195 = .ok (.iconst 3, 1) := by decide +kernel
theorem dM_window_196 : decode mM_window.2.1 196 = .ok (.invokevirtual 123, 3) := by decide +kernel
theorem dM_window_199 : decode mM_window.2.1 199 = .ok (.iadd, 1) := by decide +kernel
theorem dM_window_200 : decode mM_window.2.1 200 = .ok (.istore 8, 2) := by decide +kernel
theorem dM_window_202 : decode mM_window.2.1 202 = .ok (.iinc 9 1, 3) := by decide +kernel
theorem dM_window_205 : decode mM_window.2.1 205 = .ok (.goto (-107), 3) := by decide +kernel
theorem dM_window_208 : decode mM_window.2.1 208 = .ok (.aload_n 0, 1) := by decide +kernel
theorem dM_window_209 : decode mM_window.2.1 209 = .ok (.iload 6, 2) := by decide +kernel
theorem dM_window_211 : decode mM_window.2.1 211 = .ok (.invokevirtual 162, 3) := by decide +kernel
theorem dM_window_214 : decode mM_window.2.1 214 = .ok (.aload_n 0, 1) := by decide +kernel
theorem dM_window_215 : decode mM_window.2.1 215 = .ok (.iload 7, 2) := by decide +kernel
theorem dM_window_217 : decode mM_window.2.1 217 = .ok (.invokevirtual 162, 3) := by decide +kernel
theorem dM_window_220 : decode mM_window.2.1 220 = .ok (.isub, 1) := by decide +kernel
theorem dM_window_221 : decode mM_window.2.1 221 = .ok (.istore 9, 2) := by decide +kernel
theorem dM_window_223 : decode mM_window.2.1 223 = .ok (.iload_n 3, 1) := by decide +kernel
theorem dM_window_224 : decode mM_window.2.1 224 = .ok (.ifCond .ge 8, 3) := by decide +kernel
theorem dM_window_227 : decode mM_window.2.1 227 = .ok (.iload 9, 2) := by decide +kernel
theorem dM_window_229 : decode mM_window.2.1 229 = .ok (.goto 21, 3) := by decide +kernel
theorem dM_window_232 : decode mM_window.2.1 232 = .ok (.iload 8, 2) := by decide +kernel
theorem dM_window_234 : decode mM_window.2.1 234 = .ok (.ifCond .ne 7, 3) := by decide +kernel
theorem dM_window_237 : decode mM_window.2.1 237 = .ok (.iconst 0, 1) := by decide +kernel
theorem dM_window_238 : decode mM_window.2.1 238 = .ok (.goto 12, 3) := by decide +kernel
theorem dM_window_241 : decode mM_window.2.1 241 = .ok (.aload_n 0, 1) := by decide +kernel
theorem dM_window_242 : decode mM_window.2.1 242 = .ok (.iload 9, 2) := by decide +kernel
theorem dM_window_244 : decode mM_window.2.1 244 = .ok (.iload 8, 2) := by decide +kernel
theorem dM_window_246 : decode mM_window.2.1 246 = .ok (.iload_n 3, 1) := by decide +kernel
theorem dM_window_247 : decode mM_window.2.1 247 = .ok (.invokevirtual 185, 3) := by decide +kernel
theorem dM_window_250 : decode mM_window.2.1 250 = .ok (.ireturn, 1) := by decide +kernel
theorem dM_partOf_0 : decode mM_partOf.2.1 0 = .ok (.iload_n 1, 1) := by decide +kernel
theorem dM_partOf_1 : decode mM_partOf.2.1 1 = .ok (.istore 4, 2) := by decide +kernel
theorem dM_partOf_3 : decode mM_partOf.2.1 3 = .ok (.iconst 0, 1) := by decide +kernel
theorem dM_partOf_4 : decode mM_partOf.2.1 4 = .ok (.istore 5, 2) := by decide +kernel
theorem dM_partOf_6 : decode mM_partOf.2.1 6 = .ok (.iload 5, 2) := by decide +kernel
theorem dM_partOf_8 : decode mM_partOf.2.1 8 = .ok (.iconst 4, 1) := by decide +kernel
theorem dM_partOf_9 : decode mM_partOf.2.1 9 = .ok (.if_icmp .ge 25, 3) := by decide +kernel
theorem dM_partOf_12 : decode mM_partOf.2.1 12 = .ok (.iload 4, 2) := by decide +kernel
theorem dM_partOf_14 : decode mM_partOf.2.1 14 = .ok (.iload_n 1, 1) := by decide +kernel
theorem dM_partOf_15 : decode mM_partOf.2.1 15 = .ok (.aload_n 0, 1) := by decide +kernel
theorem dM_partOf_16 : decode mM_partOf.2.1 16 = .ok (.getfield 46, 3) := by decide +kernel
theorem dM_partOf_19 : decode mM_partOf.2.1 19 = .ok (.iload 5, 2) := by decide +kernel
theorem dM_partOf_21 : decode mM_partOf.2.1 21 = .ok (.iaload, 1) := by decide +kernel
theorem dM_partOf_22 : decode mM_partOf.2.1 22 = .ok (.imul, 1) := by decide +kernel
theorem dM_partOf_23 : decode mM_partOf.2.1 23 = .ok (.iload_n 2, 1) := by decide +kernel
theorem dM_partOf_24 : decode mM_partOf.2.1 24 = .ok (.idiv, 1) := by decide +kernel
theorem dM_partOf_25 : decode mM_partOf.2.1 25 = .ok (.isub, 1) := by decide +kernel
theorem dM_partOf_26 : decode mM_partOf.2.1 26 = .ok (.istore 4, 2) := by decide +kernel
theorem dM_partOf_28 : decode mM_partOf.2.1 28 = .ok (.iinc 5 1, 3) := by decide +kernel
theorem dM_partOf_31 : decode mM_partOf.2.1 31 = .ok (.goto (-25), 3) := by decide +kernel
theorem dM_partOf_34 : decode mM_partOf.2.1 34 = .ok (.iload_n 1, 1) := by decide +kernel
theorem dM_partOf_35 : decode mM_partOf.2.1 35 = .ok (.aload_n 0, 1) := by decide +kernel
theorem dM_partOf_36 : decode mM_partOf.2.1 36 = .ok (.getfield 46, 3) := by decide +kernel
theorem dM_partOf_39 : decode mM_partOf.2.1 39 = .ok (.iload_n 3, 1) := by decide +kernel
theorem dM_partOf_40 : decode mM_partOf.2.1 40 = .ok (.iaload, 1) := by decide +kernel
theorem dM_partOf_41 : decode mM_partOf.2.1 41 = .ok (.imul, 1) := by decide +kernel
theorem dM_partOf_42 : decode mM_partOf.2.1 42 = .ok (.iload_n 2, 1) := by decide +kernel
theorem dM_partOf_43 : decode mM_partOf.2.1 43 = .ok (.irem, 1) := by decide +kernel
theorem dM_partOf_44 : decode mM_partOf.2.1 44 = .ok (.istore 5, 2) := by decide +kernel
theorem dM_partOf_46 : decode mM_partOf.2.1 46 = .ok (.iconst 0, 1) := by decide +kernel
theorem dM_partOf_47 : decode mM_partOf.2.1 47 = .ok (.istore 6, 2) := by decide +kernel
theorem dM_partOf_49 : decode mM_partOf.2.1 49 = .ok (.iconst 0, 1) := by decide +kernel
theorem dM_partOf_50 : decode mM_partOf.2.1 50 = .ok (.istore 7, 2) := by decide +kernel
theorem dM_partOf_52 : decode mM_partOf.2.1 52 = .ok (.iload 7, 2) := by decide +kernel
theorem dM_partOf_54 : decode mM_partOf.2.1 54 = .ok (.iconst 4, 1) := by decide +kernel
theorem dM_partOf_55 : decode mM_partOf.2.1 55 = .ok (.if_icmp .ge 52, 3) := by decide +kernel
theorem dM_partOf_58 : decode mM_partOf.2.1 58 = .ok (.iload_n 1, 1) := by decide +kernel
theorem dM_partOf_59 : decode mM_partOf.2.1 59 = .ok (.aload_n 0, 1) := by decide +kernel
theorem dM_partOf_60 : decode mM_partOf.2.1 60 = .ok (.getfield 46, 3) := by decide +kernel
theorem dM_partOf_63 : decode mM_partOf.2.1 63 = .ok (.iload 7, 2) := by decide +kernel
theorem dM_partOf_65 : decode mM_partOf.2.1 65 = .ok (.iaload, 1) := by decide +kernel
theorem dM_partOf_66 : decode mM_partOf.2.1 66 = .ok (.imul, 1) := by decide +kernel
theorem dM_partOf_67 : decode mM_partOf.2.1 67 = .ok (.iload_n 2, 1) := by decide +kernel
theorem dM_partOf_68 : decode mM_partOf.2.1 68 = .ok (.irem, 1) := by decide +kernel
theorem dM_partOf_69 : decode mM_partOf.2.1 69 = .ok (.istore 8, 2) := by decide +kernel
theorem dM_partOf_71 : decode mM_partOf.2.1 71 = .ok (.iload 6, 2) := by decide +kernel
theorem dM_partOf_73 : decode mM_partOf.2.1 73 = .ok (.iload 8, 2) := by decide +kernel
theorem dM_partOf_75 : decode mM_partOf.2.1 75 = .ok (.iload 5, 2) := by decide +kernel
theorem dM_partOf_77 : decode mM_partOf.2.1 77 = .ok (.if_icmp .gt 16, 3) := by decide +kernel
theorem dM_partOf_80 : decode mM_partOf.2.1 80 = .ok (.iload 8, 2) := by decide +kernel
theorem dM_partOf_82 : decode mM_partOf.2.1 82 = .ok (.iload 5, 2) := by decide +kernel
theorem dM_partOf_84 : decode mM_partOf.2.1 84 = .ok (.if_icmp .ne 13, 3) := by decide +kernel
theorem dM_partOf_87 : decode mM_partOf.2.1 87 = .ok (.iload 7, 2) := by decide +kernel
theorem dM_partOf_89 : decode mM_partOf.2.1 89 = .ok (.iload_n 3, 1) := by decide +kernel
theorem dM_partOf_90 : decode mM_partOf.2.1 90 = .ok (.if_icmp .ge 7, 3) := by decide +kernel
theorem dM_partOf_93 : decode mM_partOf.2.1 93 = .ok (.iconst 1, 1) := by decide +kernel
theorem dM_partOf_94 : decode mM_partOf.2.1 94 = .ok (.goto 4, 3) := by decide +kernel
theorem dM_partOf_97 : decode mM_partOf.2.1 97 = .ok (.iconst 0, 1) := by decide +kernel
theorem dM_partOf_98 : decode mM_partOf.2.1 98 = .ok (.iadd, 1) := by decide +kernel
theorem dM_partOf_99 : decode mM_partOf.2.1 99 = .ok (.istore 6, 2) := by decide +kernel
theorem dM_partOf_101 : decode mM_partOf.2.1 101 = .ok (.iinc 7 1, 3) := by decide +kernel
theorem dM_partOf_104 : decode mM_partOf.2.1 104 = .ok (.goto (-52), 3) := by decide +kernel
theorem dM_partOf_107 : decode mM_partOf.2.1 107 = .ok (.iload_n 1, 1) := by decide +kernel
theorem dM_partOf_108 : decode mM_partOf.2.1 108 = .ok (.aload_n 0, 1) := by decide +kernel
theorem dM_partOf_109 : decode mM_partOf.2.1 109 = .ok (.getfield 46, 3) := by decide +kernel
theorem dM_partOf_112 : decode mM_partOf.2.1 112 = .ok (.iload_n 3, 1) := by decide +kernel
theorem dM_partOf_113 : decode mM_partOf.2.1 113 = .ok (.iaload, 1) := by decide +kernel
theorem dM_partOf_114 : decode mM_partOf.2.1 114 = .ok (.imul, 1) := by decide +kernel
theorem dM_partOf_115 : decode mM_partOf.2.1 115 = .ok (.iload_n 2, 1) := by decide +kernel
theorem dM_partOf_116 : decode mM_partOf.2.1 116 = .ok (.idiv, 1) := by decide +kernel
theorem dM_partOf_117 : decode mM_partOf.2.1 117 = .ok (.iload 6, 2) := by decide +kernel
theorem dM_partOf_119 : decode mM_partOf.2.1 119 = .ok (.iload 4, 2) := by decide +kernel
theorem dM_partOf_121 : decode mM_partOf.2.1 121 = .ok (.if_icmp .ge 7, 3) := by decide +kernel
theorem dM_partOf_124 : decode mM_partOf.2.1 124 = .ok (.iconst 1, 1) := by decide +kernel
theorem dM_partOf_125 : decode mM_partOf.2.1 125 = .ok (.goto 4, 3) := by decide +kernel
theorem dM_partOf_128 : decode mM_partOf.2.1 128 = .ok (.iconst 0, 1) := by decide +kernel
theorem dM_partOf_129 : decode mM_partOf.2.1 129 = .ok (.iadd, 1) := by decide +kernel
theorem dM_partOf_130 : decode mM_partOf.2.1 130 = .ok (.ireturn, 1) := by decide +kernel
theorem dM_feed_0 : decode mM_feed.2.1 0 = .ok (.iload_n 3, 1) := by decide +kernel
theorem dM_feed_1 : decode mM_feed.2.1 1 = .ok (.i2l, 1) := by decide +kernel
theorem dM_feed_2 : decode mM_feed.2.1 2 = .ok (.lconst 1, 1) := by decide +kernel
theorem dM_feed_3 : decode mM_feed.2.1 3 = .ok (.ldc2_w 188, 3) := by decide +kernel
theorem dM_feed_6 : decode mM_feed.2.1 6 = .ok (.invokestatic 68, 3) := by decide +kernel
theorem dM_feed_9 : decode mM_feed.2.1 9 = .ok (.ifCond .ne 10, 3) := by decide +kernel
theorem dM_feed_12 : decode mM_feed.2.1 12 = .ok (.aload_n 0, 1) := by decide +kernel
theorem dM_feed_13 : decode mM_feed.2.1 13 = .ok (.ldc 78, 2) := by decide +kernel
theorem dM_feed_15 : decode mM_feed.2.1 15 = .ok (.invokevirtual 79, 3) := by decide +kernel
theorem dM_feed_18 : decode mM_feed.2.1 18 = .ok (.ireturn, 1) := by decide +kernel
theorem dM_feed_19 : decode mM_feed.2.1 19 = .ok (.aload_n 0, 1) := by decide +kernel
theorem dM_feed_20 : decode mM_feed.2.1 20 = .ok (.getfield 9, 3) := by decide +kernel
theorem dM_feed_23 : decode mM_feed.2.1 23 = .ok (.bipush 7, 2) := by decide +kernel
theorem dM_feed_25 : decode mM_feed.2.1 25 = .ok (.iaload, 1) := by decide +kernel
theorem dM_feed_26 : decode mM_feed.2.1 26 = .ok (.iload_n 3, 1) := by decide +kernel
theorem dM_feed_27 : decode mM_feed.2.1 27 = .ok (.iadd, 1) := by decide +kernel
theorem dM_feed_28 : decode mM_feed.2.1 28 = .ok (.bipush 60, 2) := by decide +kernel
theorem dM_feed_30 : decode mM_feed.2.1 30 = .ok (.if_icmp .le 10, 3) := by decide +kernel
theorem dM_feed_33 : decode mM_feed.2.1 33 = .ok (.aload_n 0, 1) := by decide +kernel
theorem dM_feed_34 : decode mM_feed.2.1 34 = .ok (.ldc 83, 2) := by decide +kernel
theorem dM_feed_36 : decode mM_feed.2.1 36 = .ok (.invokevirtual 79, 3) := by decide +kernel
theorem dM_feed_39 : decode mM_feed.2.1 39 = .ok (.ireturn, 1) := by decide +kernel
theorem dM_feed_40 : decode mM_feed.2.1 40 = .ok (.iconst 0, 1) := by decide +kernel
theorem dM_feed_41 : decode mM_feed.2.1 41 = .ok (.istore 4, 2) := by decide +kernel
theorem dM_feed_43 : decode mM_feed.2.1 43 = .ok (.iload 4, 2) := by decide +kernel
theorem dM_feed_45 : decode mM_feed.2.1 45 = .ok (.iload_n 3, 1) := by decide +kernel
theorem dM_feed_46 : decode mM_feed.2.1 46 = .ok (.if_icmp .ge 48, 3) := by decide +kernel
theorem dM_feed_49 : decode mM_feed.2.1 49 = .ok (.aload_n 0, 1) := by decide +kernel
theorem dM_feed_50 : decode mM_feed.2.1 50 = .ok (.getfield 9, 3) := by decide +kernel
theorem dM_feed_53 : decode mM_feed.2.1 53 = .ok (.sipush 1933, 3) := by decide +kernel
theorem dM_feed_56 : decode mM_feed.2.1 56 = .ok (.aload_n 0, 1) := by decide +kernel
theorem dM_feed_57 : decode mM_feed.2.1 57 = .ok (.getfield 9, 3) := by decide +kernel
theorem dM_feed_60 : decode mM_feed.2.1 60 = .ok (.bipush 7, 2) := by decide +kernel
theorem dM_feed_62 : decode mM_feed.2.1 62 = .ok (.iaload, 1) := by decide +kernel
theorem dM_feed_63 : decode mM_feed.2.1 63 = .ok (.iadd, 1) := by decide +kernel
theorem dM_feed_64 : decode mM_feed.2.1 64 = .ok (.lload_n 1, 1) := by decide +kernel
theorem dM_feed_65 : decode mM_feed.2.1 65 = .ok (.bipush 8, 2) := by decide +kernel
theorem dM_feed_67 : decode mM_feed.2.1 67 = .ok (.iload 4, 2) := by decide +kernel
theorem dM_feed_69 : decode mM_feed.2.1 69 = .ok (.imul, 1) := by decide +kernel
theorem dM_feed_70 : decode mM_feed.2.1 70 = .ok (.lshr, 1) := by decide +kernel
theorem dM_feed_71 : decode mM_feed.2.1 71 = .ok (.ldc2_w 190, 3) := by decide +kernel
theorem dM_feed_74 : decode mM_feed.2.1 74 = .ok (.land, 1) := by decide +kernel
theorem dM_feed_75 : decode mM_feed.2.1 75 = .ok (.l2i, 1) := by decide +kernel
theorem dM_feed_76 : decode mM_feed.2.1 76 = .ok (.iastore, 1) := by decide +kernel
theorem dM_feed_77 : decode mM_feed.2.1 77 = .ok (.aload_n 0, 1) := by decide +kernel
theorem dM_feed_78 : decode mM_feed.2.1 78 = .ok (.getfield 9, 3) := by decide +kernel
theorem dM_feed_81 : decode mM_feed.2.1 81 = .ok (.bipush 7, 2) := by decide +kernel
theorem dM_feed_83 : decode mM_feed.2.1 83 = .ok (.dup2, 1) := by decide +kernel
theorem dM_feed_84 : decode mM_feed.2.1 84 = .ok (.iaload, 1) := by decide +kernel
theorem dM_feed_85 : decode mM_feed.2.1 85 = .ok (.iconst 1, 1) := by decide +kernel
theorem dM_feed_86 : decode mM_feed.2.1 86 = .ok (.iadd, 1) := by decide +kernel
theorem dM_feed_87 : decode mM_feed.2.1 87 = .ok (.iastore, 1) := by decide +kernel
theorem dM_feed_88 : decode mM_feed.2.1 88 = .ok (.iinc 4 1, 3) := by decide +kernel
theorem dM_feed_91 : decode mM_feed.2.1 91 = .ok (.goto (-48), 3) := by decide +kernel
theorem dM_feed_94 : decode mM_feed.2.1 94 = .ok (.aload_n 0, 1) := by decide +kernel
theorem dM_feed_95 : decode mM_feed.2.1 95 = .ok (.getfield 9, 3) := by decide +kernel
theorem dM_feed_98 : decode mM_feed.2.1 98 = .ok (.bipush 7, 2) := by decide +kernel
theorem dM_feed_100 : decode mM_feed.2.1 100 = .ok (.iaload, 1) := by decide +kernel
theorem dM_feed_101 : decode mM_feed.2.1 101 = .ok (.ireturn, 1) := by decide +kernel
theorem dM_clause_0 : decode mM_clause.2.1 0 = .ok (.iload_n 1, 1) := by decide +kernel
theorem dM_clause_1 : decode mM_clause.2.1 1 = .ok (.i2l, 1) := by decide +kernel
theorem dM_clause_2 : decode mM_clause.2.1 2 = .ok (.lconst 0, 1) := by decide +kernel
theorem dM_clause_3 : decode mM_clause.2.1 3 = .ok (.lconst 1, 1) := by decide +kernel
theorem dM_clause_4 : decode mM_clause.2.1 4 = .ok (.invokestatic 68, 3) := by decide +kernel
theorem dM_clause_7 : decode mM_clause.2.1 7 = .ok (.ifCond .eq 15, 3) := by decide +kernel
theorem dM_clause_10 : decode mM_clause.2.1 10 = .ok (.iload_n 2, 1) := by decide +kernel
theorem dM_clause_11 : decode mM_clause.2.1 11 = .ok (.i2l, 1) := by decide +kernel
theorem dM_clause_12 : decode mM_clause.2.1 12 = .ok (.lconst 0, 1) := by decide +kernel
theorem dM_clause_13 : decode mM_clause.2.1 13 = .ok (.ldc2_w 119, 3) := by decide +kernel
theorem dM_clause_16 : decode mM_clause.2.1 16 = .ok (.invokestatic 68, 3) := by decide +kernel
theorem dM_clause_19 : decode mM_clause.2.1 19 = .ok (.ifCond .ne 10, 3) := by decide +kernel
theorem dM_clause_22 : decode mM_clause.2.1 22 = .ok (.aload_n 0, 1) := by decide +kernel
theorem dM_clause_23 : decode mM_clause.2.1 23 = .ok (.ldc 78, 2) := by decide +kernel
theorem dM_clause_25 : decode mM_clause.2.1 25 = .ok (.invokevirtual 79, 3) := by decide +kernel
theorem dM_clause_28 : decode mM_clause.2.1 28 = .ok (.ireturn, 1) := by decide +kernel
theorem dM_clause_29 : decode mM_clause.2.1 29 = .ok (.aload_n 0, 1) := by decide +kernel
theorem dM_clause_30 : decode mM_clause.2.1 30 = .ok (.getfield 9, 3) := by decide +kernel
theorem dM_clause_33 : decode mM_clause.2.1 33 = .ok (.iconst 5, 1) := by decide +kernel
theorem dM_clause_34 : decode mM_clause.2.1 34 = .ok (.iaload, 1) := by decide +kernel
theorem dM_clause_35 : decode mM_clause.2.1 35 = .ok (.istore_n 3, 1) := by decide +kernel
theorem dM_clause_36 : decode mM_clause.2.1 36 = .ok (.iload_n 3, 1) := by decide +kernel
theorem dM_clause_37 : decode mM_clause.2.1 37 = .ok (.bipush 10, 2) := by decide +kernel
theorem dM_clause_39 : decode mM_clause.2.1 39 = .ok (.if_icmp .ne 10, 3) := by decide +kernel
theorem dM_clause_42 : decode mM_clause.2.1 42 = .ok (.aload_n 0, 1) := by decide +kernel
theorem dM_clause_43 : decode mM_clause.2.1 43 = .ok (.ldc 83, 2) := by decide +kernel
theorem dM_clause_45 : decode mM_clause.2.1 45 = .ok (.invokevirtual 79, 3) := by decide +kernel
theorem dM_clause_48 : decode mM_clause.2.1 48 = .ok (.ireturn, 1) := by decide +kernel
theorem dM_clause_49 : decode mM_clause.2.1 49 = .ok (.aload_n 0, 1) := by decide +kernel
theorem dM_clause_50 : decode mM_clause.2.1 50 = .ok (.iconst 0, 1) := by decide +kernel
theorem dM_clause_51 : decode mM_clause.2.1 51 = .ok (.putfield 195, 3) := by decide +kernel
theorem dM_clause_54 : decode mM_clause.2.1 54 = .ok (.aload_n 0, 1) := by decide +kernel
theorem dM_clause_55 : decode mM_clause.2.1 55 = .ok (.iconst 0, 1) := by decide +kernel
theorem dM_clause_56 : decode mM_clause.2.1 56 = .ok (.putfield 223, 3) := by decide +kernel
theorem dM_clause_59 : decode mM_clause.2.1 59 = .ok (.aload_n 0, 1) := by decide +kernel
theorem dM_clause_60 : decode mM_clause.2.1 60 = .ok (.iconst 0, 1) := by decide +kernel
theorem dM_clause_61 : decode mM_clause.2.1 61 = .ok (.putfield 192, 3) := by decide +kernel
theorem dM_clause_64 : decode mM_clause.2.1 64 = .ok (.aload_n 0, 1) := by decide +kernel
theorem dM_clause_65 : decode mM_clause.2.1 65 = .ok (.iconst 0, 1) := by decide +kernel
theorem dM_clause_66 : decode mM_clause.2.1 66 = .ok (.putfield 199, 3) := by decide +kernel
theorem dM_clause_69 : decode mM_clause.2.1 69 = .ok (.aload_n 0, 1) := by decide +kernel
theorem dM_clause_70 : decode mM_clause.2.1 70 = .ok (.invokevirtual 230, 3) := by decide +kernel
theorem dM_clause_73 : decode mM_clause.2.1 73 = .ok (.aload_n 0, 1) := by decide +kernel
theorem dM_clause_74 : decode mM_clause.2.1 74 = .ok (.aload_n 0, 1) := by decide +kernel
theorem dM_clause_75 : decode mM_clause.2.1 75 = .ok (.getfield 192, 3) := by decide +kernel
theorem dM_clause_78 : decode mM_clause.2.1 78 = .ok (.ifCond .ne 17, 3) := by decide +kernel
theorem dM_clause_81 : decode mM_clause.2.1 81 = .ok (.aload_n 0, 1) := by decide +kernel
theorem dM_clause_82 : decode mM_clause.2.1 82 = .ok (.getfield 195, 3) := by decide +kernel
theorem dM_clause_85 : decode mM_clause.2.1 85 = .ok (.aload_n 0, 1) := by decide +kernel
theorem dM_clause_86 : decode mM_clause.2.1 86 = .ok (.getfield 9, 3) := by decide +kernel
theorem dM_clause_89 : decode mM_clause.2.1 89 = .ok (.bipush 7, 2) := by decide +kernel
theorem dM_clause_91 : decode mM_clause.2.1 91 = .ok (.iaload, 1) := by decide +kernel
theorem dM_clause_92 : decode mM_clause.2.1 92 = .ok (.if_icmp .ge 7, 3) := by decide +kernel
theorem dM_clause_95 : decode mM_clause.2.1 95 = .ok (.iconst 1, 1) := by decide +kernel
theorem dM_clause_96 : decode mM_clause.2.1 96 = .ok (.goto 4, 3) := by decide +kernel
theorem dM_clause_99 : decode mM_clause.2.1 99 = .ok (.iconst 0, 1) := by decide +kernel
theorem dM_clause_100 : decode mM_clause.2.1 100 = .ok (.putfield 192, 3) := by decide +kernel
theorem dM_clause_103 : decode mM_clause.2.1 103 = .ok (.aload_n 0, 1) := by decide +kernel
theorem dM_clause_104 : decode mM_clause.2.1 104 = .ok (.getfield 9, 3) := by decide +kernel
theorem dM_clause_107 : decode mM_clause.2.1 107 = .ok (.bipush 7, 2) := by decide +kernel
theorem dM_clause_109 : decode mM_clause.2.1 109 = .ok (.iconst 0, 1) := by decide +kernel
theorem dM_clause_110 : decode mM_clause.2.1 110 = .ok (.iastore, 1) := by decide +kernel
theorem dM_clause_111 : decode mM_clause.2.1 111 = .ok (.aload_n 0, 1) := by decide +kernel
theorem dM_clause_112 : decode mM_clause.2.1 112 = .ok (.getfield 192, 3) := by decide +kernel
theorem dM_clause_115 : decode mM_clause.2.1 115 = .ok (.ifCond .eq 11, 3) := by decide +kernel
theorem dM_clause_118 : decode mM_clause.2.1 118 = .ok (.bipush (-10), 2) := by decide +kernel
theorem dM_clause_120 : decode mM_clause.2.1 120 = .ok (.aload_n 0, 1) := by decide +kernel
theorem dM_clause_121 : decode mM_clause.2.1 121 = .ok (.getfield 195, 3) := by decide +kernel
theorem dM_clause_124 : decode mM_clause.2.1 124 = .ok (.isub, 1) := by decide +kernel
theorem dM_clause_125 : decode mM_clause.2.1 125 = .ok (.ireturn, 1) := by decide +kernel
theorem dM_clause_126 : decode mM_clause.2.1 126 = .ok (.sipush 288, 3) := by decide +kernel
theorem dM_clause_129 : decode mM_clause.2.1 129 = .ok (.bipush 73, 2) := by decide +kernel
theorem dM_clause_131 : decode mM_clause.2.1 131 = .ok (.iload_n 3, 1) := by decide +kernel
theorem dM_clause_132 : decode mM_clause.2.1 132 = .ok (.imul, 1) := by decide +kernel
theorem dM_clause_133 : decode mM_clause.2.1 133 = .ok (.iadd, 1) := by decide +kernel
theorem dM_clause_134 : decode mM_clause.2.1 134 = .ok (.istore 4, 2) := by decide +kernel
theorem dM_clause_136 : decode mM_clause.2.1 136 = .ok (.aload_n 0, 1) := by decide +kernel
theorem dM_clause_137 : decode mM_clause.2.1 137 = .ok (.getfield 9, 3) := by decide +kernel
theorem dM_clause_140 : decode mM_clause.2.1 140 = .ok (.iload 4, 2) := by decide +kernel
theorem dM_clause_142 : decode mM_clause.2.1 142 = .ok (.iconst 0, 1) := by decide +kernel
theorem dM_clause_143 : decode mM_clause.2.1 143 = .ok (.iadd, 1) := by decide +kernel
theorem dM_clause_144 : decode mM_clause.2.1 144 = .ok (.iload_n 1, 1) := by decide +kernel
theorem dM_clause_145 : decode mM_clause.2.1 145 = .ok (.iastore, 1) := by decide +kernel
theorem dM_clause_146 : decode mM_clause.2.1 146 = .ok (.aload_n 0, 1) := by decide +kernel
theorem dM_clause_147 : decode mM_clause.2.1 147 = .ok (.getfield 9, 3) := by decide +kernel
theorem dM_clause_150 : decode mM_clause.2.1 150 = .ok (.iload 4, 2) := by decide +kernel
theorem dM_clause_152 : decode mM_clause.2.1 152 = .ok (.iconst 1, 1) := by decide +kernel
theorem dM_clause_153 : decode mM_clause.2.1 153 = .ok (.iadd, 1) := by decide +kernel
theorem dM_clause_154 : decode mM_clause.2.1 154 = .ok (.iload_n 2, 1) := by decide +kernel
theorem dM_clause_155 : decode mM_clause.2.1 155 = .ok (.iastore, 1) := by decide +kernel
theorem dM_clause_156 : decode mM_clause.2.1 156 = .ok (.aload_n 0, 1) := by decide +kernel
theorem dM_clause_157 : decode mM_clause.2.1 157 = .ok (.getfield 9, 3) := by decide +kernel
theorem dM_clause_160 : decode mM_clause.2.1 160 = .ok (.iload 4, 2) := by decide +kernel
theorem dM_clause_162 : decode mM_clause.2.1 162 = .ok (.iconst 2, 1) := by decide +kernel
theorem dM_clause_163 : decode mM_clause.2.1 163 = .ok (.iadd, 1) := by decide +kernel
theorem dM_clause_164 : decode mM_clause.2.1 164 = .ok (.aload_n 0, 1) := by decide +kernel
theorem dM_clause_165 : decode mM_clause.2.1 165 = .ok (.getfield 199, 3) := by decide +kernel
theorem dM_clause_168 : decode mM_clause.2.1 168 = .ok (.iastore, 1) := by decide +kernel
theorem dM_clause_169 : decode mM_clause.2.1 169 = .ok (.iconst 0, 1) := by decide +kernel
theorem dM_clause_170 : decode mM_clause.2.1 170 = .ok (.istore 5, 2) := by decide +kernel
theorem dM_clause_172 : decode mM_clause.2.1 172 = .ok (.iload 5, 2) := by decide +kernel
theorem dM_clause_174 : decode mM_clause.2.1 174 = .ok (.aload_n 0, 1) := by decide +kernel
theorem dM_clause_175 : decode mM_clause.2.1 175 = .ok (.getfield 199, 3) := by decide +kernel
theorem dM_clause_178 : decode mM_clause.2.1 178 = .ok (.if_icmp .ge 28, 3) := by decide +kernel
theorem dM_clause_181 : decode mM_clause.2.1 181 = .ok (.aload_n 0, 1) := by decide +kernel
theorem dM_clause_182 : decode mM_clause.2.1 182 = .ok (.getfield 9, 3) := by decide +kernel
theorem dM_clause_185 : decode mM_clause.2.1 185 = .ok (.iload 4, 2) := by decide +kernel
theorem dM_clause_187 : decode mM_clause.2.1 187 = .ok (.iconst 3, 1) := by decide +kernel
theorem dM_clause_188 : decode mM_clause.2.1 188 = .ok (.iadd, 1) := by decide +kernel
theorem dM_clause_189 : decode mM_clause.2.1 189 = .ok (.iload 5, 2) := by decide +kernel
theorem dM_clause_191 : decode mM_clause.2.1 191 = .ok (.iadd, 1) := by decide +kernel
theorem dM_clause_192 : decode mM_clause.2.1 192 = .ok (.aload_n 0, 1) := by decide +kernel
theorem dM_clause_193 : decode mM_clause.2.1 193 = .ok (.getfield 49, 3) := by decide +kernel
theorem dM_clause_196 : decode mM_clause.2.1 196 = .ok (.iload 5, 2) := by decide +kernel
theorem dM_clause_198 : decode mM_clause.2.1 198 = .ok (.iaload, 1) := by decide +kernel
theorem dM_clause_199 : decode mM_clause.2.1 199 = .ok (.iastore, 1) := by decide +kernel
theorem dM_clause_200 : decode mM_clause.2.1 200 = .ok (.iinc 5 1, 3) := by decide +kernel
theorem dM_clause_203 : decode mM_clause.2.1 203 = .ok (.goto (-31), 3) := by decide +kernel
theorem dM_clause_206 : decode mM_clause.2.1 206 = .ok (.aload_n 0, 1) := by decide +kernel
theorem dM_clause_207 : decode mM_clause.2.1 207 = .ok (.getfield 9, 3) := by decide +kernel
theorem dM_clause_210 : decode mM_clause.2.1 210 = .ok (.iconst 5, 1) := by decide +kernel
theorem dM_clause_211 : decode mM_clause.2.1 211 = .ok (.dup2, 1) := by decide +kernel
theorem dM_clause_212 : decode mM_clause.2.1 212 = .ok (.iaload, 1) := by decide +kernel
theorem dM_clause_213 : decode mM_clause.2.1 213 = .ok (.iconst 1, 1) := by decide +kernel
theorem dM_clause_214 : decode mM_clause.2.1 214 = .ok (.iadd, 1) := by decide +kernel
theorem dM_clause_215 : decode mM_clause.2.1 215 = .ok (.iastore, 1) := by decide +kernel
theorem dM_clause_216 : decode mM_clause.2.1 216 = .ok (.iload_n 3, 1) := by decide +kernel
theorem dM_clause_217 : decode mM_clause.2.1 217 = .ok (.ireturn, 1) := by decide +kernel
theorem dM_either_0 : decode mM_either.2.1 0 = .ok (.aload_n 0, 1) := by decide +kernel
theorem dM_either_1 : decode mM_either.2.1 1 = .ok (.invokevirtual 202, 3) := by decide +kernel
theorem dM_either_4 : decode mM_either.2.1 4 = .ok (.aload_n 0, 1) := by decide +kernel
theorem dM_either_5 : decode mM_either.2.1 5 = .ok (.invokevirtual 205, 3) := by decide +kernel
theorem dM_either_8 : decode mM_either.2.1 8 = .ok (.bipush 124, 2) := by decide +kernel
theorem dM_either_10 : decode mM_either.2.1 10 = .ok (.if_icmp .ne 27, 3) := by decide +kernel
theorem dM_either_13 : decode mM_either.2.1 13 = .ok (.aload_n 0, 1) := by decide +kernel
theorem dM_either_14 : decode mM_either.2.1 14 = .ok (.dup, 1) := by decide +kernel
theorem dM_either_15 : decode mM_either.2.1 15 = .ok (.getfield 195, 3) := by decide +kernel
theorem dM_either_18 : decode mM_either.2.1 18 = .ok (.iconst 1, 1) := by decide +kernel
theorem dM_either_19 : decode mM_either.2.1 19 = .ok (.iadd, 1) := by decide +kernel
theorem dM_either_20 : decode mM_either.2.1 20 = .ok (.putfield 195, 3) := by decide +kernel
theorem dM_either_23 : decode mM_either.2.1 23 = .ok (.aload_n 0, 1) := by decide +kernel
theorem dM_either_24 : decode mM_either.2.1 24 = .ok (.invokevirtual 202, 3) := by decide +kernel
theorem dM_either_27 : decode mM_either.2.1 27 = .ok (.aload_n 0, 1) := by decide +kernel
theorem dM_either_28 : decode mM_either.2.1 28 = .ok (.sipush 20000, 3) := by decide +kernel
theorem dM_either_31 : decode mM_either.2.1 31 = .ok (.invokevirtual 208, 3) := by decide +kernel
theorem dM_either_34 : decode mM_either.2.1 34 = .ok (.goto (-30), 3) := by decide +kernel
theorem dM_either_37 : decode mM_either.2.1 37 = .ok (.return_, 1) := by decide +kernel
theorem dM_both_0 : decode mM_both.2.1 0 = .ok (.aload_n 0, 1) := by decide +kernel
theorem dM_both_1 : decode mM_both.2.1 1 = .ok (.invokevirtual 211, 3) := by decide +kernel
theorem dM_both_4 : decode mM_both.2.1 4 = .ok (.aload_n 0, 1) := by decide +kernel
theorem dM_both_5 : decode mM_both.2.1 5 = .ok (.invokevirtual 205, 3) := by decide +kernel
theorem dM_both_8 : decode mM_both.2.1 8 = .ok (.bipush 38, 2) := by decide +kernel
theorem dM_both_10 : decode mM_both.2.1 10 = .ok (.if_icmp .ne 27, 3) := by decide +kernel
theorem dM_both_13 : decode mM_both.2.1 13 = .ok (.aload_n 0, 1) := by decide +kernel
theorem dM_both_14 : decode mM_both.2.1 14 = .ok (.dup, 1) := by decide +kernel
theorem dM_both_15 : decode mM_both.2.1 15 = .ok (.getfield 195, 3) := by decide +kernel
theorem dM_both_18 : decode mM_both.2.1 18 = .ok (.iconst 1, 1) := by decide +kernel
theorem dM_both_19 : decode mM_both.2.1 19 = .ok (.iadd, 1) := by decide +kernel
theorem dM_both_20 : decode mM_both.2.1 20 = .ok (.putfield 195, 3) := by decide +kernel
theorem dM_both_23 : decode mM_both.2.1 23 = .ok (.aload_n 0, 1) := by decide +kernel
theorem dM_both_24 : decode mM_both.2.1 24 = .ok (.invokevirtual 211, 3) := by decide +kernel
theorem dM_both_27 : decode mM_both.2.1 27 = .ok (.aload_n 0, 1) := by decide +kernel
theorem dM_both_28 : decode mM_both.2.1 28 = .ok (.sipush 20001, 3) := by decide +kernel
theorem dM_both_31 : decode mM_both.2.1 31 = .ok (.invokevirtual 208, 3) := by decide +kernel
theorem dM_both_34 : decode mM_both.2.1 34 = .ok (.goto (-30), 3) := by decide +kernel
theorem dM_both_37 : decode mM_both.2.1 37 = .ok (.return_, 1) := by decide +kernel
theorem dM_test_0 : decode mM_test.2.1 0 = .ok (.aload_n 0, 1) := by decide +kernel
theorem dM_test_1 : decode mM_test.2.1 1 = .ok (.invokevirtual 214, 3) := by decide +kernel
theorem dM_test_4 : decode mM_test.2.1 4 = .ok (.aload_n 0, 1) := by decide +kernel
theorem dM_test_5 : decode mM_test.2.1 5 = .ok (.invokevirtual 205, 3) := by decide +kernel
theorem dM_test_8 : decode mM_test.2.1 8 = .ok (.istore_n 1, 1) := by decide +kernel
theorem dM_test_9 : decode mM_test.2.1 9 = .ok (.iload_n 1, 1) := by decide +kernel
theorem dM_test_10 : decode mM_test.2.1 10 = .ok (.bipush 60, 2) := by decide +kernel
theorem dM_test_12 : decode mM_test.2.1 12 = .ok (.if_icmp .eq 15, 3) := by decide +kernel
theorem dM_test_15 : decode mM_test.2.1 15 = .ok (.iload_n 1, 1) := by decide +kernel
theorem dM_test_16 : decode mM_test.2.1 16 = .ok (.bipush 61, 2) := by decide +kernel
theorem dM_test_18 : decode mM_test.2.1 18 = .ok (.if_icmp .eq 9, 3) := by decide +kernel
theorem dM_test_21 : decode mM_test.2.1 21 = .ok (.iload_n 1, 1) := by decide +kernel
theorem dM_test_22 : decode mM_test.2.1 22 = .ok (.bipush 62, 2) := by decide +kernel
theorem dM_test_24 : decode mM_test.2.1 24 = .ok (.if_icmp .ne 48, 3) := by decide +kernel
theorem dM_test_27 : decode mM_test.2.1 27 = .ok (.aload_n 0, 1) := by decide +kernel
theorem dM_test_28 : decode mM_test.2.1 28 = .ok (.dup, 1) := by decide +kernel
theorem dM_test_29 : decode mM_test.2.1 29 = .ok (.getfield 195, 3) := by decide +kernel
theorem dM_test_32 : decode mM_test.2.1 32 = .ok (.iconst 1, 1) := by decide +kernel
theorem dM_test_33 : decode mM_test.2.1 33 = .ok (.iadd, 1) := by decide +kernel
theorem dM_test_34 : decode mM_test.2.1 34 = .ok (.putfield 195, 3) := by decide +kernel
theorem dM_test_37 : decode mM_test.2.1 37 = .ok (.aload_n 0, 1) := by decide +kernel
theorem dM_test_38 : decode mM_test.2.1 38 = .ok (.invokevirtual 214, 3) := by decide +kernel
theorem dM_test_41 : decode mM_test.2.1 41 = .ok (.aload_n 0, 1) := by decide +kernel
theorem dM_test_42 : decode mM_test.2.1 42 = .ok (.iload_n 1, 1) := by decide +kernel
theorem dM_test_43 : decode mM_test.2.1 43 = .ok (.bipush 60, 2) := by decide +kernel
theorem dM_test_45 : decode mM_test.2.1 45 = .ok (.if_icmp .ne 9, 3) := by decide +kernel
theorem dM_test_48 : decode mM_test.2.1 48 = .ok (.sipush 20002, 3) := by decide +kernel
theorem dM_test_51 : decode mM_test.2.1 51 = .ok (.goto 18, 3) := by decide +kernel
theorem dM_test_54 : decode mM_test.2.1 54 = .ok (.iload_n 1, 1) := by decide +kernel
theorem dM_test_55 : decode mM_test.2.1 55 = .ok (.bipush 61, 2) := by decide +kernel
theorem dM_test_57 : decode mM_test.2.1 57 = .ok (.if_icmp .ne 9, 3) := by decide +kernel
theorem dM_test_60 : decode mM_test.2.1 60 = .ok (.sipush 20003, 3) := by decide +kernel
theorem dM_test_63 : decode mM_test.2.1 63 = .ok (.goto 6, 3) := by decide +kernel
theorem dM_test_66 : decode mM_test.2.1 66 = .ok (.sipush 20004, 3) := by decide +kernel
theorem dM_test_69 : decode mM_test.2.1 69 = .ok (.invokevirtual 208, 3) := by decide +kernel
theorem dM_test_72 : decode mM_test.2.1 72 = .ok (.return_, 1) := by decide +kernel
theorem dM_sum_0 : decode mM_sum.2.1 0 = .ok (.aload_n 0, 1) := by decide +kernel
theorem dM_sum_1 : decode mM_sum.2.1 1 = .ok (.invokevirtual 217, 3) := by decide +kernel
theorem dM_sum_4 : decode mM_sum.2.1 4 = .ok (.aload_n 0, 1) := by decide +kernel
theorem dM_sum_5 : decode mM_sum.2.1 5 = .ok (.invokevirtual 205, 3) := by decide +kernel
theorem dM_sum_8 : decode mM_sum.2.1 8 = .ok (.istore_n 1, 1) := by decide +kernel
theorem dM_sum_9 : decode mM_sum.2.1 9 = .ok (.iload_n 1, 1) := by decide +kernel
theorem dM_sum_10 : decode mM_sum.2.1 10 = .ok (.bipush 43, 2) := by decide +kernel
theorem dM_sum_12 : decode mM_sum.2.1 12 = .ok (.if_icmp .eq 9, 3) := by decide +kernel
theorem dM_sum_15 : decode mM_sum.2.1 15 = .ok (.iload_n 1, 1) := by decide +kernel
theorem dM_sum_16 : decode mM_sum.2.1 16 = .ok (.bipush 45, 2) := by decide +kernel
theorem dM_sum_18 : decode mM_sum.2.1 18 = .ok (.if_icmp .ne 44, 3) := by decide +kernel
theorem dM_sum_21 : decode mM_sum.2.1 21 = .ok (.aload_n 0, 1) := by decide +kernel
theorem dM_sum_22 : decode mM_sum.2.1 22 = .ok (.dup, 1) := by decide +kernel
theorem dM_sum_23 : decode mM_sum.2.1 23 = .ok (.getfield 195, 3) := by decide +kernel
theorem dM_sum_26 : decode mM_sum.2.1 26 = .ok (.iconst 1, 1) := by decide +kernel
theorem dM_sum_27 : decode mM_sum.2.1 27 = .ok (.iadd, 1) := by decide +kernel
theorem dM_sum_28 : decode mM_sum.2.1 28 = .ok (.putfield 195, 3) := by decide +kernel
theorem dM_sum_31 : decode mM_sum.2.1 31 = .ok (.aload_n 0, 1) := by decide +kernel
theorem dM_sum_32 : decode mM_sum.2.1 32 = .ok (.invokevirtual 217, 3) := by decide +kernel
theorem dM_sum_35 : decode mM_sum.2.1 35 = .ok (.aload_n 0, 1) := by decide +kernel
theorem dM_sum_36 : decode mM_sum.2.1 36 = .ok (.iload_n 1, 1) := by decide +kernel
theorem dM_sum_37 : decode mM_sum.2.1 37 = .ok (.bipush 43, 2) := by decide +kernel
theorem dM_sum_39 : decode mM_sum.2.1 39 = .ok (.if_icmp .ne 9, 3) := by decide +kernel
theorem dM_sum_42 : decode mM_sum.2.1 42 = .ok (.sipush 20005, 3) := by decide +kernel
theorem dM_sum_45 : decode mM_sum.2.1 45 = .ok (.goto 6, 3) := by decide +kernel
theorem dM_sum_48 : decode mM_sum.2.1 48 = .ok (.sipush 20006, 3) := by decide +kernel
theorem dM_sum_51 : decode mM_sum.2.1 51 = .ok (.invokevirtual 208, 3) := by decide +kernel
theorem dM_sum_54 : decode mM_sum.2.1 54 = .ok (.aload_n 0, 1) := by decide +kernel
theorem dM_sum_55 : decode mM_sum.2.1 55 = .ok (.invokevirtual 205, 3) := by decide +kernel
theorem dM_sum_58 : decode mM_sum.2.1 58 = .ok (.istore_n 1, 1) := by decide +kernel
theorem dM_sum_59 : decode mM_sum.2.1 59 = .ok (.goto (-50), 3) := by decide +kernel
theorem dM_sum_62 : decode mM_sum.2.1 62 = .ok (.return_, 1) := by decide +kernel
theorem dM_product_0 : decode mM_product.2.1 0 = .ok (.aload_n 0, 1) := by decide +kernel
theorem dM_product_1 : decode mM_product.2.1 1 = .ok (.invokevirtual 220, 3) := by decide +kernel
theorem dM_product_4 : decode mM_product.2.1 4 = .ok (.aload_n 0, 1) := by decide +kernel
theorem dM_product_5 : decode mM_product.2.1 5 = .ok (.invokevirtual 205, 3) := by decide +kernel
theorem dM_product_8 : decode mM_product.2.1 8 = .ok (.istore_n 1, 1) := by decide +kernel
theorem dM_product_9 : decode mM_product.2.1 9 = .ok (.iload_n 1, 1) := by decide +kernel
theorem dM_product_10 : decode mM_product.2.1 10 = .ok (.bipush 42, 2) := by decide +kernel
theorem dM_product_12 : decode mM_product.2.1 12 = .ok (.if_icmp .eq 9, 3) := by decide +kernel
theorem dM_product_15 : decode mM_product.2.1 15 = .ok (.iload_n 1, 1) := by decide +kernel
theorem dM_product_16 : decode mM_product.2.1 16 = .ok (.bipush 47, 2) := by decide +kernel
theorem dM_product_18 : decode mM_product.2.1 18 = .ok (.if_icmp .ne 44, 3) := by decide +kernel
theorem dM_product_21 : decode mM_product.2.1 21 = .ok (.aload_n 0, 1) := by decide +kernel
theorem dM_product_22 : decode mM_product.2.1 22 = .ok (.dup, 1) := by decide +kernel
theorem dM_product_23 : decode mM_product.2.1 23 = .ok (.getfield 195, 3) := by decide +kernel
theorem dM_product_26 : decode mM_product.2.1 26 = .ok (.iconst 1, 1) := by decide +kernel
theorem dM_product_27 : decode mM_product.2.1 27 = .ok (.iadd, 1) := by decide +kernel
theorem dM_product_28 : decode mM_product.2.1 28 = .ok (.putfield 195, 3) := by decide +kernel
theorem dM_product_31 : decode mM_product.2.1 31 = .ok (.aload_n 0, 1) := by decide +kernel
theorem dM_product_32 : decode mM_product.2.1 32 = .ok (.invokevirtual 220, 3) := by decide +kernel
theorem dM_product_35 : decode mM_product.2.1 35 = .ok (.aload_n 0, 1) := by decide +kernel
theorem dM_product_36 : decode mM_product.2.1 36 = .ok (.iload_n 1, 1) := by decide +kernel
theorem dM_product_37 : decode mM_product.2.1 37 = .ok (.bipush 42, 2) := by decide +kernel
theorem dM_product_39 : decode mM_product.2.1 39 = .ok (.if_icmp .ne 9, 3) := by decide +kernel
theorem dM_product_42 : decode mM_product.2.1 42 = .ok (.sipush 20007, 3) := by decide +kernel
theorem dM_product_45 : decode mM_product.2.1 45 = .ok (.goto 6, 3) := by decide +kernel
theorem dM_product_48 : decode mM_product.2.1 48 = .ok (.sipush 20008, 3) := by decide +kernel
theorem dM_product_51 : decode mM_product.2.1 51 = .ok (.invokevirtual 208, 3) := by decide +kernel
theorem dM_product_54 : decode mM_product.2.1 54 = .ok (.aload_n 0, 1) := by decide +kernel
theorem dM_product_55 : decode mM_product.2.1 55 = .ok (.invokevirtual 205, 3) := by decide +kernel
theorem dM_product_58 : decode mM_product.2.1 58 = .ok (.istore_n 1, 1) := by decide +kernel
theorem dM_product_59 : decode mM_product.2.1 59 = .ok (.goto (-50), 3) := by decide +kernel
theorem dM_product_62 : decode mM_product.2.1 62 = .ok (.return_, 1) := by decide +kernel
theorem dM_part_0 : decode mM_part.2.1 0 = .ok (.aload_n 0, 1) := by decide +kernel
theorem dM_part_1 : decode mM_part.2.1 1 = .ok (.invokevirtual 205, 3) := by decide +kernel
theorem dM_part_4 : decode mM_part.2.1 4 = .ok (.istore_n 1, 1) := by decide +kernel
theorem dM_part_5 : decode mM_part.2.1 5 = .ok (.iload_n 1, 1) := by decide +kernel
theorem dM_part_6 : decode mM_part.2.1 6 = .ok (.bipush 33, 2) := by decide +kernel
theorem dM_part_8 : decode mM_part.2.1 8 = .ok (.if_icmp .ne 32, 3) := by decide +kernel
theorem dM_part_11 : decode mM_part.2.1 11 = .ok (.aload_n 0, 1) := by decide +kernel
theorem dM_part_12 : decode mM_part.2.1 12 = .ok (.invokevirtual 226, 3) := by decide +kernel
theorem dM_part_15 : decode mM_part.2.1 15 = .ok (.ifCond .eq 24, 3) := by decide +kernel
theorem dM_part_18 : decode mM_part.2.1 18 = .ok (.aload_n 0, 1) := by decide +kernel
theorem dM_part_19 : decode mM_part.2.1 19 = .ok (.invokevirtual 220, 3) := by decide +kernel
theorem dM_part_22 : decode mM_part.2.1 22 = .ok (.aload_n 0, 1) := by decide +kernel
theorem dM_part_23 : decode mM_part.2.1 23 = .ok (.dup, 1) := by decide +kernel
theorem dM_part_24 : decode mM_part.2.1 24 = .ok (.getfield 223, 3) := by decide +kernel
theorem dM_part_27 : decode mM_part.2.1 27 = .ok (.iconst 1, 1) := by decide +kernel
theorem dM_part_28 : decode mM_part.2.1 28 = .ok (.isub, 1) := by decide +kernel
theorem dM_part_29 : decode mM_part.2.1 29 = .ok (.putfield 223, 3) := by decide +kernel
theorem dM_part_32 : decode mM_part.2.1 32 = .ok (.aload_n 0, 1) := by decide +kernel
theorem dM_part_33 : decode mM_part.2.1 33 = .ok (.sipush 20009, 3) := by decide +kernel
theorem dM_part_36 : decode mM_part.2.1 36 = .ok (.invokevirtual 208, 3) := by decide +kernel
theorem dM_part_39 : decode mM_part.2.1 39 = .ok (.return_, 1) := by decide +kernel
theorem dM_part_40 : decode mM_part.2.1 40 = .ok (.iload_n 1, 1) := by decide +kernel
theorem dM_part_41 : decode mM_part.2.1 41 = .ok (.bipush 40, 2) := by decide +kernel
theorem dM_part_43 : decode mM_part.2.1 43 = .ok (.if_icmp .ne 71, 3) := by decide +kernel
theorem dM_part_46 : decode mM_part.2.1 46 = .ok (.aload_n 0, 1) := by decide +kernel
theorem dM_part_47 : decode mM_part.2.1 47 = .ok (.invokevirtual 226, 3) := by decide +kernel
theorem dM_part_50 : decode mM_part.2.1 50 = .ok (.ifCond .eq 63, 3) := by decide +kernel
theorem dM_part_53 : decode mM_part.2.1 53 = .ok (.aload_n 0, 1) := by decide +kernel
theorem dM_part_54 : decode mM_part.2.1 54 = .ok (.invokevirtual 230, 3) := by decide +kernel
theorem dM_part_57 : decode mM_part.2.1 57 = .ok (.aload_n 0, 1) := by decide +kernel
theorem dM_part_58 : decode mM_part.2.1 58 = .ok (.dup, 1) := by decide +kernel
theorem dM_part_59 : decode mM_part.2.1 59 = .ok (.getfield 223, 3) := by decide +kernel
theorem dM_part_62 : decode mM_part.2.1 62 = .ok (.iconst 1, 1) := by decide +kernel
theorem dM_part_63 : decode mM_part.2.1 63 = .ok (.isub, 1) := by decide +kernel
theorem dM_part_64 : decode mM_part.2.1 64 = .ok (.putfield 223, 3) := by decide +kernel
theorem dM_part_67 : decode mM_part.2.1 67 = .ok (.aload_n 0, 1) := by decide +kernel
theorem dM_part_68 : decode mM_part.2.1 68 = .ok (.aload_n 0, 1) := by decide +kernel
theorem dM_part_69 : decode mM_part.2.1 69 = .ok (.getfield 192, 3) := by decide +kernel
theorem dM_part_72 : decode mM_part.2.1 72 = .ok (.ifCond .ne 12, 3) := by decide +kernel
theorem dM_part_75 : decode mM_part.2.1 75 = .ok (.aload_n 0, 1) := by decide +kernel
theorem dM_part_76 : decode mM_part.2.1 76 = .ok (.invokevirtual 205, 3) := by decide +kernel
theorem dM_part_79 : decode mM_part.2.1 79 = .ok (.bipush 41, 2) := by decide +kernel
theorem dM_part_81 : decode mM_part.2.1 81 = .ok (.if_icmp .eq 7, 3) := by decide +kernel
theorem dM_part_84 : decode mM_part.2.1 84 = .ok (.iconst 1, 1) := by decide +kernel
theorem dM_part_85 : decode mM_part.2.1 85 = .ok (.goto 4, 3) := by decide +kernel
theorem dM_part_88 : decode mM_part.2.1 88 = .ok (.iconst 0, 1) := by decide +kernel
theorem dM_part_89 : decode mM_part.2.1 89 = .ok (.putfield 192, 3) := by decide +kernel
theorem dM_part_92 : decode mM_part.2.1 92 = .ok (.aload_n 0, 1) := by decide +kernel
theorem dM_part_93 : decode mM_part.2.1 93 = .ok (.dup, 1) := by decide +kernel
theorem dM_part_94 : decode mM_part.2.1 94 = .ok (.getfield 195, 3) := by decide +kernel
theorem dM_part_97 : decode mM_part.2.1 97 = .ok (.aload_n 0, 1) := by decide +kernel
theorem dM_part_98 : decode mM_part.2.1 98 = .ok (.getfield 192, 3) := by decide +kernel
theorem dM_part_101 : decode mM_part.2.1 101 = .ok (.ifCond .eq 7, 3) := by decide +kernel
theorem dM_part_104 : decode mM_part.2.1 104 = .ok (.iconst 0, 1) := by decide +kernel
theorem dM_part_105 : decode mM_part.2.1 105 = .ok (.goto 4, 3) := by decide +kernel
theorem dM_part_108 : decode mM_part.2.1 108 = .ok (.iconst 1, 1) := by decide +kernel
theorem dM_part_109 : decode mM_part.2.1 109 = .ok (.iadd, 1) := by decide +kernel
theorem dM_part_110 : decode mM_part.2.1 110 = .ok (.putfield 195, 3) := by decide +kernel
theorem dM_part_113 : decode mM_part.2.1 113 = .ok (.return_, 1) := by decide +kernel
theorem dM_part_114 : decode mM_part.2.1 114 = .ok (.iload_n 1, 1) := by decide +kernel
theorem dM_part_115 : decode mM_part.2.1 115 = .ok (.i2l, 1) := by decide +kernel
theorem dM_part_116 : decode mM_part.2.1 116 = .ok (.ldc2_w 233, 3) := by decide +kernel
theorem dM_part_119 : decode mM_part.2.1 119 = .ok (.ldc2_w 235, 3) := by decide +kernel
theorem dM_part_122 : decode mM_part.2.1 122 = .ok (.invokestatic 68, 3) := by decide +kernel
theorem dM_part_125 : decode mM_part.2.1 125 = .ok (.ifCond .eq 64, 3) := by decide +kernel
theorem dM_part_128 : decode mM_part.2.1 128 = .ok (.iconst 0, 1) := by decide +kernel
theorem dM_part_129 : decode mM_part.2.1 129 = .ok (.istore_n 2, 1) := by decide +kernel
theorem dM_part_130 : decode mM_part.2.1 130 = .ok (.iconst 0, 1) := by decide +kernel
theorem dM_part_131 : decode mM_part.2.1 131 = .ok (.istore_n 3, 1) := by decide +kernel
theorem dM_part_132 : decode mM_part.2.1 132 = .ok (.iload_n 3, 1) := by decide +kernel
theorem dM_part_133 : decode mM_part.2.1 133 = .ok (.iconst 4, 1) := by decide +kernel
theorem dM_part_134 : decode mM_part.2.1 134 = .ok (.if_icmp .ge 49, 3) := by decide +kernel
theorem dM_part_137 : decode mM_part.2.1 137 = .ok (.aload_n 0, 1) := by decide +kernel
theorem dM_part_138 : decode mM_part.2.1 138 = .ok (.invokevirtual 205, 3) := by decide +kernel
theorem dM_part_141 : decode mM_part.2.1 141 = .ok (.i2l, 1) := by decide +kernel
theorem dM_part_142 : decode mM_part.2.1 142 = .ok (.ldc2_w 233, 3) := by decide +kernel
theorem dM_part_145 : decode mM_part.2.1 145 = .ok (.ldc2_w 235, 3) := by decide +kernel
theorem dM_part_148 : decode mM_part.2.1 148 = .ok (.invokestatic 68, 3) := by decide +kernel
theorem dM_part_151 : decode mM_part.2.1 151 = .ok (.ifCond .eq 32, 3) := by decide +kernel
theorem dM_part_154 : decode mM_part.2.1 154 = .ok (.bipush 10, 2) := by decide +kernel
theorem dM_part_156 : decode mM_part.2.1 156 = .ok (.iload_n 2, 1) := by decide +kernel
theorem dM_part_157 : decode mM_part.2.1 157 = .ok (.imul, 1) := by decide +kernel
theorem dM_part_158 : decode mM_part.2.1 158 = .ok (.aload_n 0, 1) := by decide +kernel
theorem dM_part_159 : decode mM_part.2.1 159 = .ok (.invokevirtual 205, 3) := by decide +kernel
theorem dM_part_162 : decode mM_part.2.1 162 = .ok (.iadd, 1) := by decide +kernel
theorem dM_part_163 : decode mM_part.2.1 163 = .ok (.bipush 48, 2) := by decide +kernel
theorem dM_part_165 : decode mM_part.2.1 165 = .ok (.isub, 1) := by decide +kernel
theorem dM_part_166 : decode mM_part.2.1 166 = .ok (.istore_n 2, 1) := by decide +kernel
theorem dM_part_167 : decode mM_part.2.1 167 = .ok (.aload_n 0, 1) := by decide +kernel
theorem dM_part_168 : decode mM_part.2.1 168 = .ok (.dup, 1) := by decide +kernel
theorem dM_part_169 : decode mM_part.2.1 169 = .ok (.getfield 195, 3) := by decide +kernel
theorem dM_part_172 : decode mM_part.2.1 172 = .ok (.iconst 1, 1) := by decide +kernel
theorem dM_part_173 : decode mM_part.2.1 173 = .ok (.iadd, 1) := by decide +kernel
theorem dM_part_174 : decode mM_part.2.1 174 = .ok (.putfield 195, 3) := by decide +kernel
theorem dM_part_177 : decode mM_part.2.1 177 = .ok (.iinc 3 1, 3) := by decide +kernel
theorem dM_part_180 : decode mM_part.2.1 180 = .ok (.goto (-48), 3) := by decide +kernel
theorem dM_part_183 : decode mM_part.2.1 183 = .ok (.aload_n 0, 1) := by decide +kernel
theorem dM_part_184 : decode mM_part.2.1 184 = .ok (.iload_n 2, 1) := by decide +kernel
theorem dM_part_185 : decode mM_part.2.1 185 = .ok (.invokevirtual 208, 3) := by decide +kernel
theorem dM_part_188 : decode mM_part.2.1 188 = .ok (.return_, 1) := by decide +kernel
theorem dM_part_189 : decode mM_part.2.1 189 = .ok (.iload_n 1, 1) := by decide +kernel
theorem dM_part_190 : decode mM_part.2.1 190 = .ok (.invokestatic 237, 3) := by decide +kernel
theorem dM_part_193 : decode mM_part.2.1 193 = .ok (.istore_n 2, 1) := by decide +kernel
theorem dM_part_194 : decode mM_part.2.1 194 = .ok (.aload_n 0, 1) := by decide +kernel
theorem dM_part_195 : decode mM_part.2.1 195 = .ok (.aload_n 0, 1) := by decide +kernel
theorem dM_part_196 : decode mM_part.2.1 196 = .ok (.getfield 192, 3) := by decide +kernel
theorem dM_part_199 : decode mM_part.2.1 199 = .ok (.ifCond .ne 7, 3) := by decide +kernel
theorem dM_part_202 : decode mM_part.2.1 202 = .ok (.iload_n 2, 1) := by decide +kernel
theorem dM_part_203 : decode mM_part.2.1 203 = .ok (.ifCond .ge 7, 3) := by decide +kernel
theorem dM_part_206 : decode mM_part.2.1 206 = .ok (.iconst 1, 1) := by decide +kernel
theorem dM_part_207 : decode mM_part.2.1 207 = .ok (.goto 4, 3) := by decide +kernel
theorem dM_part_210 : decode mM_part.2.1 210 = .ok (.iconst 0, 1) := by decide +kernel
theorem dM_part_211 : decode mM_part.2.1 211 = .ok (.putfield 192, 3) := by decide +kernel
theorem dM_part_214 : decode mM_part.2.1 214 = .ok (.aload_n 0, 1) := by decide +kernel
theorem dM_part_215 : decode mM_part.2.1 215 = .ok (.getfield 192, 3) := by decide +kernel
theorem dM_part_218 : decode mM_part.2.1 218 = .ok (.ifCond .ne 22, 3) := by decide +kernel
theorem dM_part_221 : decode mM_part.2.1 221 = .ok (.aload_n 0, 1) := by decide +kernel
theorem dM_part_222 : decode mM_part.2.1 222 = .ok (.sipush 10000, 3) := by decide +kernel
theorem dM_part_225 : decode mM_part.2.1 225 = .ok (.iload_n 2, 1) := by decide +kernel
theorem dM_part_226 : decode mM_part.2.1 226 = .ok (.iadd, 1) := by decide +kernel
theorem dM_part_227 : decode mM_part.2.1 227 = .ok (.invokevirtual 208, 3) := by decide +kernel
theorem dM_part_230 : decode mM_part.2.1 230 = .ok (.aload_n 0, 1) := by decide +kernel
theorem dM_part_231 : decode mM_part.2.1 231 = .ok (.dup, 1) := by decide +kernel
theorem dM_part_232 : decode mM_part.2.1 232 = .ok (.getfield 195, 3) := by decide +kernel
theorem dM_part_235 : decode mM_part.2.1 235 = .ok (.iconst 1, 1) := by decide +kernel
theorem dM_part_236 : decode mM_part.2.1 236 = .ok (.iadd, 1) := by decide +kernel
theorem dM_part_237 : decode mM_part.2.1 237 = .ok (.putfield 195, 3) := by decide +kernel
theorem dM_part_240 : decode mM_part.2.1 240 = .ok (.return_, 1) := by decide +kernel
theorem dM_here_0 : decode mM_here.2.1 0 = .ok (.aload_n 0, 1) := by decide +kernel
theorem dM_here_1 : decode mM_here.2.1 1 = .ok (.getfield 192, 3) := by decide +kernel
theorem dM_here_4 : decode mM_here.2.1 4 = .ok (.ifCond .ne 33, 3) := by decide +kernel
theorem dM_here_7 : decode mM_here.2.1 7 = .ok (.aload_n 0, 1) := by decide +kernel
theorem dM_here_8 : decode mM_here.2.1 8 = .ok (.getfield 195, 3) := by decide +kernel
theorem dM_here_11 : decode mM_here.2.1 11 = .ok (.aload_n 0, 1) := by decide +kernel
theorem dM_here_12 : decode mM_here.2.1 12 = .ok (.getfield 9, 3) := by decide +kernel
theorem dM_here_15 : decode mM_here.2.1 15 = .ok (.bipush 7, 2) := by decide +kernel
theorem dM_here_17 : decode mM_here.2.1 17 = .ok (.iaload, 1) := by decide +kernel
theorem dM_here_18 : decode mM_here.2.1 18 = .ok (.if_icmp .ge 19, 3) := by decide +kernel
theorem dM_here_21 : decode mM_here.2.1 21 = .ok (.aload_n 0, 1) := by decide +kernel
theorem dM_here_22 : decode mM_here.2.1 22 = .ok (.getfield 9, 3) := by decide +kernel
theorem dM_here_25 : decode mM_here.2.1 25 = .ok (.sipush 1933, 3) := by decide +kernel
theorem dM_here_28 : decode mM_here.2.1 28 = .ok (.aload_n 0, 1) := by decide +kernel
theorem dM_here_29 : decode mM_here.2.1 29 = .ok (.getfield 195, 3) := by decide +kernel
theorem dM_here_32 : decode mM_here.2.1 32 = .ok (.iadd, 1) := by decide +kernel
theorem dM_here_33 : decode mM_here.2.1 33 = .ok (.iaload, 1) := by decide +kernel
theorem dM_here_34 : decode mM_here.2.1 34 = .ok (.goto 4, 3) := by decide +kernel
theorem dM_here_37 : decode mM_here.2.1 37 = .ok (.iconst (-1), 1) := by decide +kernel
theorem dM_here_38 : decode mM_here.2.1 38 = .ok (.ireturn, 1) := by decide +kernel
theorem dM_opens_0 : decode mM_opens.2.1 0 = .ok (.aload_n 0, 1) := by decide +kernel
theorem dM_opens_1 : decode mM_opens.2.1 1 = .ok (.aload_n 0, 1) := by decide +kernel
theorem dM_opens_2 : decode mM_opens.2.1 2 = .ok (.getfield 192, 3) := by decide +kernel
theorem dM_opens_5 : decode mM_opens.2.1 5 = .ok (.ifCond .ne 11, 3) := by decide +kernel
theorem dM_opens_8 : decode mM_opens.2.1 8 = .ok (.aload_n 0, 1) := by decide +kernel
theorem dM_opens_9 : decode mM_opens.2.1 9 = .ok (.getfield 223, 3) := by decide +kernel
theorem dM_opens_12 : decode mM_opens.2.1 12 = .ok (.iconst 5, 1) := by decide +kernel
theorem dM_opens_13 : decode mM_opens.2.1 13 = .ok (.if_icmp .ne 7, 3) := by decide +kernel
theorem dM_opens_16 : decode mM_opens.2.1 16 = .ok (.iconst 1, 1) := by decide +kernel
theorem dM_opens_17 : decode mM_opens.2.1 17 = .ok (.goto 4, 3) := by decide +kernel
theorem dM_opens_20 : decode mM_opens.2.1 20 = .ok (.iconst 0, 1) := by decide +kernel
theorem dM_opens_21 : decode mM_opens.2.1 21 = .ok (.putfield 192, 3) := by decide +kernel
theorem dM_opens_24 : decode mM_opens.2.1 24 = .ok (.aload_n 0, 1) := by decide +kernel
theorem dM_opens_25 : decode mM_opens.2.1 25 = .ok (.getfield 192, 3) := by decide +kernel
theorem dM_opens_28 : decode mM_opens.2.1 28 = .ok (.ifCond .ne 23, 3) := by decide +kernel
theorem dM_opens_31 : decode mM_opens.2.1 31 = .ok (.aload_n 0, 1) := by decide +kernel
theorem dM_opens_32 : decode mM_opens.2.1 32 = .ok (.dup, 1) := by decide +kernel
theorem dM_opens_33 : decode mM_opens.2.1 33 = .ok (.getfield 223, 3) := by decide +kernel
theorem dM_opens_36 : decode mM_opens.2.1 36 = .ok (.iconst 1, 1) := by decide +kernel
theorem dM_opens_37 : decode mM_opens.2.1 37 = .ok (.iadd, 1) := by decide +kernel
theorem dM_opens_38 : decode mM_opens.2.1 38 = .ok (.putfield 223, 3) := by decide +kernel
theorem dM_opens_41 : decode mM_opens.2.1 41 = .ok (.aload_n 0, 1) := by decide +kernel
theorem dM_opens_42 : decode mM_opens.2.1 42 = .ok (.dup, 1) := by decide +kernel
theorem dM_opens_43 : decode mM_opens.2.1 43 = .ok (.getfield 195, 3) := by decide +kernel
theorem dM_opens_46 : decode mM_opens.2.1 46 = .ok (.iconst 1, 1) := by decide +kernel
theorem dM_opens_47 : decode mM_opens.2.1 47 = .ok (.iadd, 1) := by decide +kernel
theorem dM_opens_48 : decode mM_opens.2.1 48 = .ok (.putfield 195, 3) := by decide +kernel
theorem dM_opens_51 : decode mM_opens.2.1 51 = .ok (.aload_n 0, 1) := by decide +kernel
theorem dM_opens_52 : decode mM_opens.2.1 52 = .ok (.getfield 192, 3) := by decide +kernel
theorem dM_opens_55 : decode mM_opens.2.1 55 = .ok (.ifCond .ne 7, 3) := by decide +kernel
theorem dM_opens_58 : decode mM_opens.2.1 58 = .ok (.iconst 1, 1) := by decide +kernel
theorem dM_opens_59 : decode mM_opens.2.1 59 = .ok (.goto 4, 3) := by decide +kernel
theorem dM_opens_62 : decode mM_opens.2.1 62 = .ok (.iconst 0, 1) := by decide +kernel
theorem dM_opens_63 : decode mM_opens.2.1 63 = .ok (.ireturn, 1) := by decide +kernel
theorem dM_put1_0 : decode mM_put1.2.1 0 = .ok (.aload_n 0, 1) := by decide +kernel
theorem dM_put1_1 : decode mM_put1.2.1 1 = .ok (.getfield 192, 3) := by decide +kernel
theorem dM_put1_4 : decode mM_put1.2.1 4 = .ok (.ifCond .ne 23, 3) := by decide +kernel
theorem dM_put1_7 : decode mM_put1.2.1 7 = .ok (.aload_n 0, 1) := by decide +kernel
theorem dM_put1_8 : decode mM_put1.2.1 8 = .ok (.getfield 49, 3) := by decide +kernel
theorem dM_put1_11 : decode mM_put1.2.1 11 = .ok (.aload_n 0, 1) := by decide +kernel
theorem dM_put1_12 : decode mM_put1.2.1 12 = .ok (.getfield 199, 3) := by decide +kernel
theorem dM_put1_15 : decode mM_put1.2.1 15 = .ok (.iload_n 1, 1) := by decide +kernel
theorem dM_put1_16 : decode mM_put1.2.1 16 = .ok (.iastore, 1) := by decide +kernel
theorem dM_put1_17 : decode mM_put1.2.1 17 = .ok (.aload_n 0, 1) := by decide +kernel
theorem dM_put1_18 : decode mM_put1.2.1 18 = .ok (.dup, 1) := by decide +kernel
theorem dM_put1_19 : decode mM_put1.2.1 19 = .ok (.getfield 199, 3) := by decide +kernel
theorem dM_put1_22 : decode mM_put1.2.1 22 = .ok (.iconst 1, 1) := by decide +kernel
theorem dM_put1_23 : decode mM_put1.2.1 23 = .ok (.iadd, 1) := by decide +kernel
theorem dM_put1_24 : decode mM_put1.2.1 24 = .ok (.putfield 199, 3) := by decide +kernel
theorem dM_put1_27 : decode mM_put1.2.1 27 = .ok (.return_, 1) := by decide +kernel
theorem dM_nameOf_0 : decode mM_nameOf.2.1 0 = .ok (.iload_n 0, 1) := by decide +kernel
theorem dM_nameOf_1 : decode mM_nameOf.2.1 1 = .ok (.tableswitch 99 99 116 #[87, 89, 99, 97, 99, 99, 99, 99, 91, 99, 99, 93, 99, 99, 99, 99, 99, 95], 87) := by decide +kernel
theorem dM_nameOf_88 : decode mM_nameOf.2.1 88 = .ok (.iconst 0, 1) := by decide +kernel
theorem dM_nameOf_89 : decode mM_nameOf.2.1 89 = .ok (.ireturn, 1) := by decide +kernel
theorem dM_nameOf_90 : decode mM_nameOf.2.1 90 = .ok (.iconst 1, 1) := by decide +kernel
theorem dM_nameOf_91 : decode mM_nameOf.2.1 91 = .ok (.ireturn, 1) := by decide +kernel
theorem dM_nameOf_92 : decode mM_nameOf.2.1 92 = .ok (.iconst 2, 1) := by decide +kernel
theorem dM_nameOf_93 : decode mM_nameOf.2.1 93 = .ok (.ireturn, 1) := by decide +kernel
theorem dM_nameOf_94 : decode mM_nameOf.2.1 94 = .ok (.iconst 3, 1) := by decide +kernel
theorem dM_nameOf_95 : decode mM_nameOf.2.1 95 = .ok (.ireturn, 1) := by decide +kernel
theorem dM_nameOf_96 : decode mM_nameOf.2.1 96 = .ok (.iconst 4, 1) := by decide +kernel
theorem dM_nameOf_97 : decode mM_nameOf.2.1 97 = .ok (.ireturn, 1) := by decide +kernel
theorem dM_nameOf_98 : decode mM_nameOf.2.1 98 = .ok (.iconst 5, 1) := by decide +kernel
theorem dM_nameOf_99 : decode mM_nameOf.2.1 99 = .ok (.ireturn, 1) := by decide +kernel
theorem dM_nameOf_100 : decode mM_nameOf.2.1 100 = .ok (.iconst (-1), 1) := by decide +kernel
theorem dM_nameOf_101 : decode mM_nameOf.2.1 101 = .ok (.ireturn, 1) := by decide +kernel
theorem dM_force_0 : decode mM_force.2.1 0 = .ok (.iload_n 1, 1) := by decide +kernel
theorem dM_force_1 : decode mM_force.2.1 1 = .ok (.i2l, 1) := by decide +kernel
theorem dM_force_2 : decode mM_force.2.1 2 = .ok (.lconst 0, 1) := by decide +kernel
theorem dM_force_3 : decode mM_force.2.1 3 = .ok (.lconst 1, 1) := by decide +kernel
theorem dM_force_4 : decode mM_force.2.1 4 = .ok (.invokestatic 68, 3) := by decide +kernel
theorem dM_force_7 : decode mM_force.2.1 7 = .ok (.ifCond .eq 12, 3) := by decide +kernel
theorem dM_force_10 : decode mM_force.2.1 10 = .ok (.aload_n 0, 1) := by decide +kernel
theorem dM_force_11 : decode mM_force.2.1 11 = .ok (.iload_n 2, 1) := by decide +kernel
theorem dM_force_12 : decode mM_force.2.1 12 = .ok (.iconst 4, 1) := by decide +kernel
theorem dM_force_13 : decode mM_force.2.1 13 = .ok (.invokevirtual 84, 3) := by decide +kernel
theorem dM_force_16 : decode mM_force.2.1 16 = .ok (.ifCond .ne 10, 3) := by decide +kernel
theorem dM_force_19 : decode mM_force.2.1 19 = .ok (.aload_n 0, 1) := by decide +kernel
theorem dM_force_20 : decode mM_force.2.1 20 = .ok (.ldc 78, 2) := by decide +kernel
theorem dM_force_22 : decode mM_force.2.1 22 = .ok (.invokevirtual 79, 3) := by decide +kernel
theorem dM_force_25 : decode mM_force.2.1 25 = .ok (.ireturn, 1) := by decide +kernel
theorem dM_force_26 : decode mM_force.2.1 26 = .ok (.aload_n 0, 1) := by decide +kernel
theorem dM_force_27 : decode mM_force.2.1 27 = .ok (.iload_n 1, 1) := by decide +kernel
theorem dM_force_28 : decode mM_force.2.1 28 = .ok (.iload_n 2, 1) := by decide +kernel
theorem dM_force_29 : decode mM_force.2.1 29 = .ok (.invokevirtual 240, 3) := by decide +kernel
theorem dM_force_32 : decode mM_force.2.1 32 = .ok (.istore_n 3, 1) := by decide +kernel
theorem dM_force_33 : decode mM_force.2.1 33 = .ok (.iload_n 3, 1) := by decide +kernel
theorem dM_force_34 : decode mM_force.2.1 34 = .ok (.ifCond .ge 12, 3) := by decide +kernel
theorem dM_force_37 : decode mM_force.2.1 37 = .ok (.aload_n 0, 1) := by decide +kernel
theorem dM_force_38 : decode mM_force.2.1 38 = .ok (.ldc 114, 2) := by decide +kernel
theorem dM_force_40 : decode mM_force.2.1 40 = .ok (.invokevirtual 79, 3) := by decide +kernel
theorem dM_force_43 : decode mM_force.2.1 43 = .ok (.goto 4, 3) := by decide +kernel
theorem dM_force_46 : decode mM_force.2.1 46 = .ok (.iload_n 3, 1) := by decide +kernel
theorem dM_force_47 : decode mM_force.2.1 47 = .ok (.ireturn, 1) := by decide +kernel
theorem dM_forced_0 : decode mM_forced.2.1 0 = .ok (.iconst (-1), 1) := by decide +kernel
theorem dM_forced_1 : decode mM_forced.2.1 1 = .ok (.istore_n 3, 1) := by decide +kernel
theorem dM_forced_2 : decode mM_forced.2.1 2 = .ok (.iconst 0, 1) := by decide +kernel
theorem dM_forced_3 : decode mM_forced.2.1 3 = .ok (.istore 4, 2) := by decide +kernel
theorem dM_forced_5 : decode mM_forced.2.1 5 = .ok (.iload 4, 2) := by decide +kernel
theorem dM_forced_7 : decode mM_forced.2.1 7 = .ok (.aload_n 0, 1) := by decide +kernel
theorem dM_forced_8 : decode mM_forced.2.1 8 = .ok (.getfield 9, 3) := by decide +kernel
theorem dM_forced_11 : decode mM_forced.2.1 11 = .ok (.iconst 5, 1) := by decide +kernel
theorem dM_forced_12 : decode mM_forced.2.1 12 = .ok (.iaload, 1) := by decide +kernel
theorem dM_forced_13 : decode mM_forced.2.1 13 = .ok (.if_icmp .ge 58, 3) := by decide +kernel
theorem dM_forced_16 : decode mM_forced.2.1 16 = .ok (.sipush 288, 3) := by decide +kernel
theorem dM_forced_19 : decode mM_forced.2.1 19 = .ok (.bipush 73, 2) := by decide +kernel
theorem dM_forced_21 : decode mM_forced.2.1 21 = .ok (.iload 4, 2) := by decide +kernel
theorem dM_forced_23 : decode mM_forced.2.1 23 = .ok (.imul, 1) := by decide +kernel
theorem dM_forced_24 : decode mM_forced.2.1 24 = .ok (.iadd, 1) := by decide +kernel
theorem dM_forced_25 : decode mM_forced.2.1 25 = .ok (.istore 5, 2) := by decide +kernel
theorem dM_forced_27 : decode mM_forced.2.1 27 = .ok (.aload_n 0, 1) := by decide +kernel
theorem dM_forced_28 : decode mM_forced.2.1 28 = .ok (.getfield 9, 3) := by decide +kernel
theorem dM_forced_31 : decode mM_forced.2.1 31 = .ok (.iload 5, 2) := by decide +kernel
theorem dM_forced_33 : decode mM_forced.2.1 33 = .ok (.iconst 0, 1) := by decide +kernel
theorem dM_forced_34 : decode mM_forced.2.1 34 = .ok (.iadd, 1) := by decide +kernel
theorem dM_forced_35 : decode mM_forced.2.1 35 = .ok (.iaload, 1) := by decide +kernel
theorem dM_forced_36 : decode mM_forced.2.1 36 = .ok (.iload_n 1, 1) := by decide +kernel
theorem dM_forced_37 : decode mM_forced.2.1 37 = .ok (.if_icmp .ne 26, 3) := by decide +kernel
theorem dM_forced_40 : decode mM_forced.2.1 40 = .ok (.aload_n 0, 1) := by decide +kernel
theorem dM_forced_41 : decode mM_forced.2.1 41 = .ok (.getfield 9, 3) := by decide +kernel
theorem dM_forced_44 : decode mM_forced.2.1 44 = .ok (.iload 5, 2) := by decide +kernel
theorem dM_forced_46 : decode mM_forced.2.1 46 = .ok (.iconst 1, 1) := by decide +kernel
theorem dM_forced_47 : decode mM_forced.2.1 47 = .ok (.iadd, 1) := by decide +kernel
theorem dM_forced_48 : decode mM_forced.2.1 48 = .ok (.iaload, 1) := by decide +kernel
theorem dM_forced_49 : decode mM_forced.2.1 49 = .ok (.aload_n 0, 1) := by decide +kernel
theorem dM_forced_50 : decode mM_forced.2.1 50 = .ok (.iload_n 2, 1) := by decide +kernel
theorem dM_forced_51 : decode mM_forced.2.1 51 = .ok (.iconst 2, 1) := by decide +kernel
theorem dM_forced_52 : decode mM_forced.2.1 52 = .ok (.invokevirtual 123, 3) := by decide +kernel
theorem dM_forced_55 : decode mM_forced.2.1 55 = .ok (.if_icmp .gt 8, 3) := by decide +kernel
theorem dM_forced_58 : decode mM_forced.2.1 58 = .ok (.iload 4, 2) := by decide +kernel
theorem dM_forced_60 : decode mM_forced.2.1 60 = .ok (.goto 4, 3) := by decide +kernel
theorem dM_forced_63 : decode mM_forced.2.1 63 = .ok (.iload_n 3, 1) := by decide +kernel
theorem dM_forced_64 : decode mM_forced.2.1 64 = .ok (.istore_n 3, 1) := by decide +kernel
theorem dM_forced_65 : decode mM_forced.2.1 65 = .ok (.iinc 4 1, 3) := by decide +kernel
theorem dM_forced_68 : decode mM_forced.2.1 68 = .ok (.goto (-63), 3) := by decide +kernel
theorem dM_forced_71 : decode mM_forced.2.1 71 = .ok (.iload_n 3, 1) := by decide +kernel
theorem dM_forced_72 : decode mM_forced.2.1 72 = .ok (.ireturn, 1) := by decide +kernel
theorem dM_says_0 : decode mM_says.2.1 0 = .ok (.iload_n 1, 1) := by decide +kernel
theorem dM_says_1 : decode mM_says.2.1 1 = .ok (.i2l, 1) := by decide +kernel
theorem dM_says_2 : decode mM_says.2.1 2 = .ok (.lconst 0, 1) := by decide +kernel
theorem dM_says_3 : decode mM_says.2.1 3 = .ok (.lconst 1, 1) := by decide +kernel
theorem dM_says_4 : decode mM_says.2.1 4 = .ok (.invokestatic 68, 3) := by decide +kernel
theorem dM_says_7 : decode mM_says.2.1 7 = .ok (.ifCond .eq 21, 3) := by decide +kernel
theorem dM_says_10 : decode mM_says.2.1 10 = .ok (.aload_n 0, 1) := by decide +kernel
theorem dM_says_11 : decode mM_says.2.1 11 = .ok (.iload_n 2, 1) := by decide +kernel
theorem dM_says_12 : decode mM_says.2.1 12 = .ok (.iconst 4, 1) := by decide +kernel
theorem dM_says_13 : decode mM_says.2.1 13 = .ok (.invokevirtual 84, 3) := by decide +kernel
theorem dM_says_16 : decode mM_says.2.1 16 = .ok (.ifCond .eq 12, 3) := by decide +kernel
theorem dM_says_19 : decode mM_says.2.1 19 = .ok (.aload_n 0, 1) := by decide +kernel
theorem dM_says_20 : decode mM_says.2.1 20 = .ok (.iload_n 1, 1) := by decide +kernel
theorem dM_says_21 : decode mM_says.2.1 21 = .ok (.iload_n 2, 1) := by decide +kernel
theorem dM_says_22 : decode mM_says.2.1 22 = .ok (.invokevirtual 261, 3) := by decide +kernel
theorem dM_says_25 : decode mM_says.2.1 25 = .ok (.goto 9, 3) := by decide +kernel
theorem dM_says_28 : decode mM_says.2.1 28 = .ok (.aload_n 0, 1) := by decide +kernel
theorem dM_says_29 : decode mM_says.2.1 29 = .ok (.ldc 78, 2) := by decide +kernel
theorem dM_says_31 : decode mM_says.2.1 31 = .ok (.invokevirtual 79, 3) := by decide +kernel
theorem dM_says_34 : decode mM_says.2.1 34 = .ok (.ireturn, 1) := by decide +kernel
theorem dM_saidOf_0 : decode mM_saidOf.2.1 0 = .ok (.aload_n 0, 1) := by decide +kernel
theorem dM_saidOf_1 : decode mM_saidOf.2.1 1 = .ok (.iload_n 1, 1) := by decide +kernel
theorem dM_saidOf_2 : decode mM_saidOf.2.1 2 = .ok (.iload_n 2, 1) := by decide +kernel
theorem dM_saidOf_3 : decode mM_saidOf.2.1 3 = .ok (.invokevirtual 240, 3) := by decide +kernel
theorem dM_saidOf_6 : decode mM_saidOf.2.1 6 = .ok (.istore_n 3, 1) := by decide +kernel
theorem dM_saidOf_7 : decode mM_saidOf.2.1 7 = .ok (.iload_n 3, 1) := by decide +kernel
theorem dM_saidOf_8 : decode mM_saidOf.2.1 8 = .ok (.ifCond .ge 42, 3) := by decide +kernel
theorem dM_saidOf_11 : decode mM_saidOf.2.1 11 = .ok (.aload_n 0, 1) := by decide +kernel
theorem dM_saidOf_12 : decode mM_saidOf.2.1 12 = .ok (.iload_n 2, 1) := by decide +kernel
theorem dM_saidOf_13 : decode mM_saidOf.2.1 13 = .ok (.iconst 1, 1) := by decide +kernel
theorem dM_saidOf_14 : decode mM_saidOf.2.1 14 = .ok (.invokevirtual 123, 3) := by decide +kernel
theorem dM_saidOf_17 : decode mM_saidOf.2.1 17 = .ok (.istore 4, 2) := by decide +kernel
theorem dM_saidOf_19 : decode mM_saidOf.2.1 19 = .ok (.iload_n 1, 1) := by decide +kernel
theorem dM_saidOf_20 : decode mM_saidOf.2.1 20 = .ok (.iconst 1, 1) := by decide +kernel
theorem dM_saidOf_21 : decode mM_saidOf.2.1 21 = .ok (.if_icmp .ne 8, 3) := by decide +kernel
theorem dM_saidOf_24 : decode mM_saidOf.2.1 24 = .ok (.bipush 100, 2) := by decide +kernel
theorem dM_saidOf_26 : decode mM_saidOf.2.1 26 = .ok (.goto 23, 3) := by decide +kernel
theorem dM_saidOf_29 : decode mM_saidOf.2.1 29 = .ok (.iload 4, 2) := by decide +kernel
theorem dM_saidOf_31 : decode mM_saidOf.2.1 31 = .ok (.ifCond .ne 7, 3) := by decide +kernel
theorem dM_saidOf_34 : decode mM_saidOf.2.1 34 = .ok (.iconst 2, 1) := by decide +kernel
theorem dM_saidOf_35 : decode mM_saidOf.2.1 35 = .ok (.goto 14, 3) := by decide +kernel
theorem dM_saidOf_38 : decode mM_saidOf.2.1 38 = .ok (.iload 4, 2) := by decide +kernel
theorem dM_saidOf_40 : decode mM_saidOf.2.1 40 = .ok (.iconst 1, 1) := by decide +kernel
theorem dM_saidOf_41 : decode mM_saidOf.2.1 41 = .ok (.if_icmp .ne 7, 3) := by decide +kernel
theorem dM_saidOf_44 : decode mM_saidOf.2.1 44 = .ok (.iconst 0, 1) := by decide +kernel
theorem dM_saidOf_45 : decode mM_saidOf.2.1 45 = .ok (.goto 4, 3) := by decide +kernel
theorem dM_saidOf_48 : decode mM_saidOf.2.1 48 = .ok (.iconst 1, 1) := by decide +kernel
theorem dM_saidOf_49 : decode mM_saidOf.2.1 49 = .ok (.ireturn, 1) := by decide +kernel
theorem dM_saidOf_50 : decode mM_saidOf.2.1 50 = .ok (.iconst 0, 1) := by decide +kernel
theorem dM_saidOf_51 : decode mM_saidOf.2.1 51 = .ok (.iload_n 1, 1) := by decide +kernel
theorem dM_saidOf_52 : decode mM_saidOf.2.1 52 = .ok (.iconst 1, 1) := by decide +kernel
theorem dM_saidOf_53 : decode mM_saidOf.2.1 53 = .ok (.if_icmp .ne 9, 3) := by decide +kernel
theorem dM_saidOf_56 : decode mM_saidOf.2.1 56 = .ok (.sipush 9999, 3) := by decide +kernel
theorem dM_saidOf_59 : decode mM_saidOf.2.1 59 = .ok (.goto 4, 3) := by decide +kernel
theorem dM_saidOf_62 : decode mM_saidOf.2.1 62 = .ok (.iconst 2, 1) := by decide +kernel
theorem dM_saidOf_63 : decode mM_saidOf.2.1 63 = .ok (.aload_n 0, 1) := by decide +kernel
theorem dM_saidOf_64 : decode mM_saidOf.2.1 64 = .ok (.iload_n 3, 1) := by decide +kernel
theorem dM_saidOf_65 : decode mM_saidOf.2.1 65 = .ok (.iload_n 2, 1) := by decide +kernel
theorem dM_saidOf_66 : decode mM_saidOf.2.1 66 = .ok (.invokevirtual 255, 3) := by decide +kernel
theorem dM_saidOf_69 : decode mM_saidOf.2.1 69 = .ok (.invokestatic 258, 3) := by decide +kernel
theorem dM_saidOf_72 : decode mM_saidOf.2.1 72 = .ok (.invokestatic 139, 3) := by decide +kernel
theorem dM_saidOf_75 : decode mM_saidOf.2.1 75 = .ok (.ireturn, 1) := by decide +kernel
theorem dM_worked_0 : decode mM_worked.2.1 0 = .ok (.sipush 288, 3) := by decide +kernel
theorem dM_worked_3 : decode mM_worked.2.1 3 = .ok (.bipush 73, 2) := by decide +kernel
theorem dM_worked_5 : decode mM_worked.2.1 5 = .ok (.iload_n 1, 1) := by decide +kernel
theorem dM_worked_6 : decode mM_worked.2.1 6 = .ok (.imul, 1) := by decide +kernel
theorem dM_worked_7 : decode mM_worked.2.1 7 = .ok (.iadd, 1) := by decide +kernel
theorem dM_worked_8 : decode mM_worked.2.1 8 = .ok (.istore_n 3, 1) := by decide +kernel
theorem dM_worked_9 : decode mM_worked.2.1 9 = .ok (.iconst 0, 1) := by decide +kernel
theorem dM_worked_10 : decode mM_worked.2.1 10 = .ok (.istore 4, 2) := by decide +kernel
theorem dM_worked_12 : decode mM_worked.2.1 12 = .ok (.iconst 0, 1) := by decide +kernel
theorem dM_worked_13 : decode mM_worked.2.1 13 = .ok (.istore 5, 2) := by decide +kernel
theorem dM_worked_15 : decode mM_worked.2.1 15 = .ok (.iload 5, 2) := by decide +kernel
theorem dM_worked_17 : decode mM_worked.2.1 17 = .ok (.aload_n 0, 1) := by decide +kernel
theorem dM_worked_18 : decode mM_worked.2.1 18 = .ok (.getfield 9, 3) := by decide +kernel
theorem dM_worked_21 : decode mM_worked.2.1 21 = .ok (.iload_n 3, 1) := by decide +kernel
theorem dM_worked_22 : decode mM_worked.2.1 22 = .ok (.iconst 2, 1) := by decide +kernel
theorem dM_worked_23 : decode mM_worked.2.1 23 = .ok (.iadd, 1) := by decide +kernel
theorem dM_worked_24 : decode mM_worked.2.1 24 = .ok (.iaload, 1) := by decide +kernel
theorem dM_worked_25 : decode mM_worked.2.1 25 = .ok (.if_icmp .ge 137, 3) := by decide +kernel
theorem dM_worked_28 : decode mM_worked.2.1 28 = .ok (.aload_n 0, 1) := by decide +kernel
theorem dM_worked_29 : decode mM_worked.2.1 29 = .ok (.getfield 9, 3) := by decide +kernel
theorem dM_worked_32 : decode mM_worked.2.1 32 = .ok (.iload_n 3, 1) := by decide +kernel
theorem dM_worked_33 : decode mM_worked.2.1 33 = .ok (.iconst 3, 1) := by decide +kernel
theorem dM_worked_34 : decode mM_worked.2.1 34 = .ok (.iadd, 1) := by decide +kernel
theorem dM_worked_35 : decode mM_worked.2.1 35 = .ok (.iload 5, 2) := by decide +kernel
theorem dM_worked_37 : decode mM_worked.2.1 37 = .ok (.iadd, 1) := by decide +kernel
theorem dM_worked_38 : decode mM_worked.2.1 38 = .ok (.iaload, 1) := by decide +kernel
theorem dM_worked_39 : decode mM_worked.2.1 39 = .ok (.istore 6, 2) := by decide +kernel
theorem dM_worked_41 : decode mM_worked.2.1 41 = .ok (.iload 6, 2) := by decide +kernel
theorem dM_worked_43 : decode mM_worked.2.1 43 = .ok (.sipush 20000, 3) := by decide +kernel
theorem dM_worked_46 : decode mM_worked.2.1 46 = .ok (.if_icmp .ge 40, 3) := by decide +kernel
theorem dM_worked_49 : decode mM_worked.2.1 49 = .ok (.aload_n 0, 1) := by decide +kernel
theorem dM_worked_50 : decode mM_worked.2.1 50 = .ok (.getfield 52, 3) := by decide +kernel
theorem dM_worked_53 : decode mM_worked.2.1 53 = .ok (.iload 4, 2) := by decide +kernel
theorem dM_worked_55 : decode mM_worked.2.1 55 = .ok (.iload 6, 2) := by decide +kernel
theorem dM_worked_57 : decode mM_worked.2.1 57 = .ok (.sipush 10000, 3) := by decide +kernel
theorem dM_worked_60 : decode mM_worked.2.1 60 = .ok (.if_icmp .ge 8, 3) := by decide +kernel
theorem dM_worked_63 : decode mM_worked.2.1 63 = .ok (.iload 6, 2) := by decide +kernel
theorem dM_worked_65 : decode mM_worked.2.1 65 = .ok (.goto 14, 3) := by decide +kernel
theorem dM_worked_68 : decode mM_worked.2.1 68 = .ok (.aload_n 0, 1) := by decide +kernel
theorem dM_worked_69 : decode mM_worked.2.1 69 = .ok (.iload 6, 2) := by decide +kernel
theorem dM_worked_71 : decode mM_worked.2.1 71 = .ok (.sipush 10000, 3) := by decide +kernel
theorem dM_worked_74 : decode mM_worked.2.1 74 = .ok (.isub, 1) := by decide +kernel
theorem dM_worked_75 : decode mM_worked.2.1 75 = .ok (.iload_n 2, 1) := by decide +kernel
theorem dM_worked_76 : decode mM_worked.2.1 76 = .ok (.invokevirtual 249, 3) := by decide +kernel
theorem dM_worked_79 : decode mM_worked.2.1 79 = .ok (.iastore, 1) := by decide +kernel
theorem dM_worked_80 : decode mM_worked.2.1 80 = .ok (.iinc 4 1, 3) := by decide +kernel
theorem dM_worked_83 : decode mM_worked.2.1 83 = .ok (.goto 73, 3) := by decide +kernel
theorem dM_worked_86 : decode mM_worked.2.1 86 = .ok (.iload 6, 2) := by decide +kernel
theorem dM_worked_88 : decode mM_worked.2.1 88 = .ok (.sipush 20009, 3) := by decide +kernel
theorem dM_worked_91 : decode mM_worked.2.1 91 = .ok (.if_icmp .ne 32, 3) := by decide +kernel
theorem dM_worked_94 : decode mM_worked.2.1 94 = .ok (.aload_n 0, 1) := by decide +kernel
theorem dM_worked_95 : decode mM_worked.2.1 95 = .ok (.getfield 52, 3) := by decide +kernel
theorem dM_worked_98 : decode mM_worked.2.1 98 = .ok (.iload 4, 2) := by decide +kernel
theorem dM_worked_100 : decode mM_worked.2.1 100 = .ok (.iconst 1, 1) := by decide +kernel
theorem dM_worked_101 : decode mM_worked.2.1 101 = .ok (.isub, 1) := by decide +kernel
theorem dM_worked_102 : decode mM_worked.2.1 102 = .ok (.aload_n 0, 1) := by decide +kernel
theorem dM_worked_103 : decode mM_worked.2.1 103 = .ok (.getfield 52, 3) := by decide +kernel
theorem dM_worked_106 : decode mM_worked.2.1 106 = .ok (.iload 4, 2) := by decide +kernel
theorem dM_worked_108 : decode mM_worked.2.1 108 = .ok (.iconst 1, 1) := by decide +kernel
theorem dM_worked_109 : decode mM_worked.2.1 109 = .ok (.isub, 1) := by decide +kernel
theorem dM_worked_110 : decode mM_worked.2.1 110 = .ok (.iaload, 1) := by decide +kernel
theorem dM_worked_111 : decode mM_worked.2.1 111 = .ok (.ifCond .ne 7, 3) := by decide +kernel
theorem dM_worked_114 : decode mM_worked.2.1 114 = .ok (.iconst 1, 1) := by decide +kernel
theorem dM_worked_115 : decode mM_worked.2.1 115 = .ok (.goto 4, 3) := by decide +kernel
theorem dM_worked_118 : decode mM_worked.2.1 118 = .ok (.iconst 0, 1) := by decide +kernel
theorem dM_worked_119 : decode mM_worked.2.1 119 = .ok (.iastore, 1) := by decide +kernel
theorem dM_worked_120 : decode mM_worked.2.1 120 = .ok (.goto 36, 3) := by decide +kernel
theorem dM_worked_123 : decode mM_worked.2.1 123 = .ok (.iinc 4 (-1), 3) := by decide +kernel
theorem dM_worked_126 : decode mM_worked.2.1 126 = .ok (.aload_n 0, 1) := by decide +kernel
theorem dM_worked_127 : decode mM_worked.2.1 127 = .ok (.getfield 52, 3) := by decide +kernel
theorem dM_worked_130 : decode mM_worked.2.1 130 = .ok (.iload 4, 2) := by decide +kernel
theorem dM_worked_132 : decode mM_worked.2.1 132 = .ok (.iconst 1, 1) := by decide +kernel
theorem dM_worked_133 : decode mM_worked.2.1 133 = .ok (.isub, 1) := by decide +kernel
theorem dM_worked_134 : decode mM_worked.2.1 134 = .ok (.iload 6, 2) := by decide +kernel
theorem dM_worked_136 : decode mM_worked.2.1 136 = .ok (.aload_n 0, 1) := by decide +kernel
theorem dM_worked_137 : decode mM_worked.2.1 137 = .ok (.getfield 52, 3) := by decide +kernel
theorem dM_worked_140 : decode mM_worked.2.1 140 = .ok (.iload 4, 2) := by decide +kernel
theorem dM_worked_142 : decode mM_worked.2.1 142 = .ok (.iconst 1, 1) := by decide +kernel
theorem dM_worked_143 : decode mM_worked.2.1 143 = .ok (.isub, 1) := by decide +kernel
theorem dM_worked_144 : decode mM_worked.2.1 144 = .ok (.iaload, 1) := by decide +kernel
theorem dM_worked_145 : decode mM_worked.2.1 145 = .ok (.aload_n 0, 1) := by decide +kernel
theorem dM_worked_146 : decode mM_worked.2.1 146 = .ok (.getfield 52, 3) := by decide +kernel
theorem dM_worked_149 : decode mM_worked.2.1 149 = .ok (.iload 4, 2) := by decide +kernel
theorem dM_worked_151 : decode mM_worked.2.1 151 = .ok (.iaload, 1) := by decide +kernel
theorem dM_worked_152 : decode mM_worked.2.1 152 = .ok (.invokestatic 252, 3) := by decide +kernel
theorem dM_worked_155 : decode mM_worked.2.1 155 = .ok (.iastore, 1) := by decide +kernel
theorem dM_worked_156 : decode mM_worked.2.1 156 = .ok (.iinc 5 1, 3) := by decide +kernel
theorem dM_worked_159 : decode mM_worked.2.1 159 = .ok (.goto (-144), 3) := by decide +kernel
theorem dM_worked_162 : decode mM_worked.2.1 162 = .ok (.aload_n 0, 1) := by decide +kernel
theorem dM_worked_163 : decode mM_worked.2.1 163 = .ok (.getfield 52, 3) := by decide +kernel
theorem dM_worked_166 : decode mM_worked.2.1 166 = .ok (.iconst 0, 1) := by decide +kernel
theorem dM_worked_167 : decode mM_worked.2.1 167 = .ok (.iaload, 1) := by decide +kernel
theorem dM_worked_168 : decode mM_worked.2.1 168 = .ok (.ireturn, 1) := by decide +kernel
theorem dM_named_0 : decode mM_named.2.1 0 = .ok (.iload_n 1, 1) := by decide +kernel
theorem dM_named_1 : decode mM_named.2.1 1 = .ok (.tableswitch 103 0 4 #[35, 42, 49, 60, 89], 35) := by decide +kernel
theorem dM_named_36 : decode mM_named.2.1 36 = .ok (.aload_n 0, 1) := by decide +kernel
theorem dM_named_37 : decode mM_named.2.1 37 = .ok (.iload_n 2, 1) := by decide +kernel
theorem dM_named_38 : decode mM_named.2.1 38 = .ok (.iconst 1, 1) := by decide +kernel
theorem dM_named_39 : decode mM_named.2.1 39 = .ok (.invokevirtual 123, 3) := by decide +kernel
theorem dM_named_42 : decode mM_named.2.1 42 = .ok (.ireturn, 1) := by decide +kernel
theorem dM_named_43 : decode mM_named.2.1 43 = .ok (.aload_n 0, 1) := by decide +kernel
theorem dM_named_44 : decode mM_named.2.1 44 = .ok (.iload_n 2, 1) := by decide +kernel
theorem dM_named_45 : decode mM_named.2.1 45 = .ok (.iconst 3, 1) := by decide +kernel
theorem dM_named_46 : decode mM_named.2.1 46 = .ok (.invokevirtual 123, 3) := by decide +kernel
theorem dM_named_49 : decode mM_named.2.1 49 = .ok (.ireturn, 1) := by decide +kernel
theorem dM_named_50 : decode mM_named.2.1 50 = .ok (.aload_n 0, 1) := by decide +kernel
theorem dM_named_51 : decode mM_named.2.1 51 = .ok (.aload_n 0, 1) := by decide +kernel
theorem dM_named_52 : decode mM_named.2.1 52 = .ok (.iload_n 2, 1) := by decide +kernel
theorem dM_named_53 : decode mM_named.2.1 53 = .ok (.iconst 0, 1) := by decide +kernel
theorem dM_named_54 : decode mM_named.2.1 54 = .ok (.invokevirtual 123, 3) := by decide +kernel
theorem dM_named_57 : decode mM_named.2.1 57 = .ok (.invokevirtual 88, 3) := by decide +kernel
theorem dM_named_60 : decode mM_named.2.1 60 = .ok (.ireturn, 1) := by decide +kernel
theorem dM_named_61 : decode mM_named.2.1 61 = .ok (.aload_n 0, 1) := by decide +kernel
theorem dM_named_62 : decode mM_named.2.1 62 = .ok (.iload_n 2, 1) := by decide +kernel
theorem dM_named_63 : decode mM_named.2.1 63 = .ok (.iconst 4, 1) := by decide +kernel
theorem dM_named_64 : decode mM_named.2.1 64 = .ok (.invokevirtual 123, 3) := by decide +kernel
theorem dM_named_67 : decode mM_named.2.1 67 = .ok (.ifCond .ge 9, 3) := by decide +kernel
theorem dM_named_70 : decode mM_named.2.1 70 = .ok (.sipush 999, 3) := by decide +kernel
theorem dM_named_73 : decode mM_named.2.1 73 = .ok (.goto 16, 3) := by decide +kernel
theorem dM_named_76 : decode mM_named.2.1 76 = .ok (.aload_n 0, 1) := by decide +kernel
theorem dM_named_77 : decode mM_named.2.1 77 = .ok (.iload_n 2, 1) := by decide +kernel
theorem dM_named_78 : decode mM_named.2.1 78 = .ok (.iconst 4, 1) := by decide +kernel
theorem dM_named_79 : decode mM_named.2.1 79 = .ok (.invokevirtual 123, 3) := by decide +kernel
theorem dM_named_82 : decode mM_named.2.1 82 = .ok (.aload_n 0, 1) := by decide +kernel
theorem dM_named_83 : decode mM_named.2.1 83 = .ok (.iload_n 2, 1) := by decide +kernel
theorem dM_named_84 : decode mM_named.2.1 84 = .ok (.iconst 2, 1) := by decide +kernel
theorem dM_named_85 : decode mM_named.2.1 85 = .ok (.invokevirtual 123, 3) := by decide +kernel
theorem dM_named_88 : decode mM_named.2.1 88 = .ok (.isub, 1) := by decide +kernel
theorem dM_named_89 : decode mM_named.2.1 89 = .ok (.ireturn, 1) := by decide +kernel
theorem dM_named_90 : decode mM_named.2.1 90 = .ok (.aload_n 0, 1) := by decide +kernel
theorem dM_named_91 : decode mM_named.2.1 91 = .ok (.iload_n 2, 1) := by decide +kernel
theorem dM_named_92 : decode mM_named.2.1 92 = .ok (.invokevirtual 243, 3) := by decide +kernel
theorem dM_named_95 : decode mM_named.2.1 95 = .ok (.ifCond .eq 7, 3) := by decide +kernel
theorem dM_named_98 : decode mM_named.2.1 98 = .ok (.iconst 1, 1) := by decide +kernel
theorem dM_named_99 : decode mM_named.2.1 99 = .ok (.goto 4, 3) := by decide +kernel
theorem dM_named_102 : decode mM_named.2.1 102 = .ok (.iconst 0, 1) := by decide +kernel
theorem dM_named_103 : decode mM_named.2.1 103 = .ok (.ireturn, 1) := by decide +kernel
theorem dM_named_104 : decode mM_named.2.1 104 = .ok (.aload_n 0, 1) := by decide +kernel
theorem dM_named_105 : decode mM_named.2.1 105 = .ok (.aload_n 0, 1) := by decide +kernel
theorem dM_named_106 : decode mM_named.2.1 106 = .ok (.iload_n 2, 1) := by decide +kernel
theorem dM_named_107 : decode mM_named.2.1 107 = .ok (.iconst 0, 1) := by decide +kernel
theorem dM_named_108 : decode mM_named.2.1 108 = .ok (.invokevirtual 123, 3) := by decide +kernel
theorem dM_named_111 : decode mM_named.2.1 111 = .ok (.invokevirtual 246, 3) := by decide +kernel
theorem dM_named_114 : decode mM_named.2.1 114 = .ok (.ireturn, 1) := by decide +kernel
theorem dM_isTwo_0 : decode mM_isTwo.2.1 0 = .ok (.aload_n 0, 1) := by decide +kernel
theorem dM_isTwo_1 : decode mM_isTwo.2.1 1 = .ok (.aload_n 0, 1) := by decide +kernel
theorem dM_isTwo_2 : decode mM_isTwo.2.1 2 = .ok (.getfield 9, 3) := by decide +kernel
theorem dM_isTwo_5 : decode mM_isTwo.2.1 5 = .ok (.iconst 0, 1) := by decide +kernel
theorem dM_isTwo_6 : decode mM_isTwo.2.1 6 = .ok (.iaload, 1) := by decide +kernel
theorem dM_isTwo_7 : decode mM_isTwo.2.1 7 = .ok (.invokevirtual 132, 3) := by decide +kernel
theorem dM_isTwo_10 : decode mM_isTwo.2.1 10 = .ok (.istore_n 2, 1) := by decide +kernel
theorem dM_isTwo_11 : decode mM_isTwo.2.1 11 = .ok (.iconst 0, 1) := by decide +kernel
theorem dM_isTwo_12 : decode mM_isTwo.2.1 12 = .ok (.istore_n 3, 1) := by decide +kernel
theorem dM_isTwo_13 : decode mM_isTwo.2.1 13 = .ok (.iconst 0, 1) := by decide +kernel
theorem dM_isTwo_14 : decode mM_isTwo.2.1 14 = .ok (.istore 4, 2) := by decide +kernel
theorem dM_isTwo_16 : decode mM_isTwo.2.1 16 = .ok (.iload 4, 2) := by decide +kernel
theorem dM_isTwo_18 : decode mM_isTwo.2.1 18 = .ok (.aload_n 0, 1) := by decide +kernel
theorem dM_isTwo_19 : decode mM_isTwo.2.1 19 = .ok (.getfield 9, 3) := by decide +kernel
theorem dM_isTwo_22 : decode mM_isTwo.2.1 22 = .ok (.iconst 4, 1) := by decide +kernel
theorem dM_isTwo_23 : decode mM_isTwo.2.1 23 = .ok (.iaload, 1) := by decide +kernel
theorem dM_isTwo_24 : decode mM_isTwo.2.1 24 = .ok (.if_icmp .ge 109, 3) := by decide +kernel
theorem dM_isTwo_27 : decode mM_isTwo.2.1 27 = .ok (.aload_n 0, 1) := by decide +kernel
theorem dM_isTwo_28 : decode mM_isTwo.2.1 28 = .ok (.iload 4, 2) := by decide +kernel
theorem dM_isTwo_30 : decode mM_isTwo.2.1 30 = .ok (.iconst 2, 1) := by decide +kernel
theorem dM_isTwo_31 : decode mM_isTwo.2.1 31 = .ok (.invokevirtual 123, 3) := by decide +kernel
theorem dM_isTwo_34 : decode mM_isTwo.2.1 34 = .ok (.aload_n 0, 1) := by decide +kernel
theorem dM_isTwo_35 : decode mM_isTwo.2.1 35 = .ok (.iload_n 1, 1) := by decide +kernel
theorem dM_isTwo_36 : decode mM_isTwo.2.1 36 = .ok (.iconst 2, 1) := by decide +kernel
theorem dM_isTwo_37 : decode mM_isTwo.2.1 37 = .ok (.invokevirtual 123, 3) := by decide +kernel
theorem dM_isTwo_40 : decode mM_isTwo.2.1 40 = .ok (.aload_n 0, 1) := by decide +kernel
theorem dM_isTwo_41 : decode mM_isTwo.2.1 41 = .ok (.iload_n 1, 1) := by decide +kernel
theorem dM_isTwo_42 : decode mM_isTwo.2.1 42 = .ok (.iconst 3, 1) := by decide +kernel
theorem dM_isTwo_43 : decode mM_isTwo.2.1 43 = .ok (.invokevirtual 123, 3) := by decide +kernel
theorem dM_isTwo_46 : decode mM_isTwo.2.1 46 = .ok (.iadd, 1) := by decide +kernel
theorem dM_isTwo_47 : decode mM_isTwo.2.1 47 = .ok (.if_icmp .ge 31, 3) := by decide +kernel
theorem dM_isTwo_50 : decode mM_isTwo.2.1 50 = .ok (.aload_n 0, 1) := by decide +kernel
theorem dM_isTwo_51 : decode mM_isTwo.2.1 51 = .ok (.iload_n 1, 1) := by decide +kernel
theorem dM_isTwo_52 : decode mM_isTwo.2.1 52 = .ok (.iconst 2, 1) := by decide +kernel
theorem dM_isTwo_53 : decode mM_isTwo.2.1 53 = .ok (.invokevirtual 123, 3) := by decide +kernel
theorem dM_isTwo_56 : decode mM_isTwo.2.1 56 = .ok (.aload_n 0, 1) := by decide +kernel
theorem dM_isTwo_57 : decode mM_isTwo.2.1 57 = .ok (.iload 4, 2) := by decide +kernel
theorem dM_isTwo_59 : decode mM_isTwo.2.1 59 = .ok (.iconst 2, 1) := by decide +kernel
theorem dM_isTwo_60 : decode mM_isTwo.2.1 60 = .ok (.invokevirtual 123, 3) := by decide +kernel
theorem dM_isTwo_63 : decode mM_isTwo.2.1 63 = .ok (.aload_n 0, 1) := by decide +kernel
theorem dM_isTwo_64 : decode mM_isTwo.2.1 64 = .ok (.iload 4, 2) := by decide +kernel
theorem dM_isTwo_66 : decode mM_isTwo.2.1 66 = .ok (.iconst 3, 1) := by decide +kernel
theorem dM_isTwo_67 : decode mM_isTwo.2.1 67 = .ok (.invokevirtual 123, 3) := by decide +kernel
theorem dM_isTwo_70 : decode mM_isTwo.2.1 70 = .ok (.iadd, 1) := by decide +kernel
theorem dM_isTwo_71 : decode mM_isTwo.2.1 71 = .ok (.if_icmp .ge 7, 3) := by decide +kernel
theorem dM_isTwo_74 : decode mM_isTwo.2.1 74 = .ok (.iconst 1, 1) := by decide +kernel
theorem dM_isTwo_75 : decode mM_isTwo.2.1 75 = .ok (.goto 4, 3) := by decide +kernel
theorem dM_isTwo_78 : decode mM_isTwo.2.1 78 = .ok (.iconst 0, 1) := by decide +kernel
theorem dM_isTwo_79 : decode mM_isTwo.2.1 79 = .ok (.istore 5, 2) := by decide +kernel
theorem dM_isTwo_81 : decode mM_isTwo.2.1 81 = .ok (.iload_n 3, 1) := by decide +kernel
theorem dM_isTwo_82 : decode mM_isTwo.2.1 82 = .ok (.ifCond .ne 39, 3) := by decide +kernel
theorem dM_isTwo_85 : decode mM_isTwo.2.1 85 = .ok (.iload 4, 2) := by decide +kernel
theorem dM_isTwo_87 : decode mM_isTwo.2.1 87 = .ok (.iload_n 1, 1) := by decide +kernel
theorem dM_isTwo_88 : decode mM_isTwo.2.1 88 = .ok (.if_icmp .eq 37, 3) := by decide +kernel
theorem dM_isTwo_91 : decode mM_isTwo.2.1 91 = .ok (.iload_n 2, 1) := by decide +kernel
theorem dM_isTwo_92 : decode mM_isTwo.2.1 92 = .ok (.iload 4, 2) := by decide +kernel
theorem dM_isTwo_94 : decode mM_isTwo.2.1 94 = .ok (.invokestatic 102, 3) := by decide +kernel
theorem dM_isTwo_97 : decode mM_isTwo.2.1 97 = .ok (.ifCond .eq 28, 3) := by decide +kernel
theorem dM_isTwo_100 : decode mM_isTwo.2.1 100 = .ok (.aload_n 0, 1) := by decide +kernel
theorem dM_isTwo_101 : decode mM_isTwo.2.1 101 = .ok (.iload 4, 2) := by decide +kernel
theorem dM_isTwo_103 : decode mM_isTwo.2.1 103 = .ok (.iconst 1, 1) := by decide +kernel
theorem dM_isTwo_104 : decode mM_isTwo.2.1 104 = .ok (.invokevirtual 123, 3) := by decide +kernel
theorem dM_isTwo_107 : decode mM_isTwo.2.1 107 = .ok (.aload_n 0, 1) := by decide +kernel
theorem dM_isTwo_108 : decode mM_isTwo.2.1 108 = .ok (.iload_n 1, 1) := by decide +kernel
theorem dM_isTwo_109 : decode mM_isTwo.2.1 109 = .ok (.iconst 1, 1) := by decide +kernel
theorem dM_isTwo_110 : decode mM_isTwo.2.1 110 = .ok (.invokevirtual 123, 3) := by decide +kernel
theorem dM_isTwo_113 : decode mM_isTwo.2.1 113 = .ok (.if_icmp .eq 12, 3) := by decide +kernel
theorem dM_isTwo_116 : decode mM_isTwo.2.1 116 = .ok (.iload 5, 2) := by decide +kernel
theorem dM_isTwo_118 : decode mM_isTwo.2.1 118 = .ok (.ifCond .eq 7, 3) := by decide +kernel
theorem dM_isTwo_121 : decode mM_isTwo.2.1 121 = .ok (.iconst 1, 1) := by decide +kernel
theorem dM_isTwo_122 : decode mM_isTwo.2.1 122 = .ok (.goto 4, 3) := by decide +kernel
theorem dM_isTwo_125 : decode mM_isTwo.2.1 125 = .ok (.iconst 0, 1) := by decide +kernel
theorem dM_isTwo_126 : decode mM_isTwo.2.1 126 = .ok (.istore_n 3, 1) := by decide +kernel
theorem dM_isTwo_127 : decode mM_isTwo.2.1 127 = .ok (.iinc 4 1, 3) := by decide +kernel
theorem dM_isTwo_130 : decode mM_isTwo.2.1 130 = .ok (.goto (-114), 3) := by decide +kernel
theorem dM_isTwo_133 : decode mM_isTwo.2.1 133 = .ok (.iload_n 3, 1) := by decide +kernel
theorem dM_isTwo_134 : decode mM_isTwo.2.1 134 = .ok (.ireturn, 1) := by decide +kernel
theorem dM_floatOf_0 : decode mM_floatOf.2.1 0 = .ok (.aload_n 0, 1) := by decide +kernel
theorem dM_floatOf_1 : decode mM_floatOf.2.1 1 = .ok (.getfield 43, 3) := by decide +kernel
theorem dM_floatOf_4 : decode mM_floatOf.2.1 4 = .ok (.iload_n 1, 1) := by decide +kernel
theorem dM_floatOf_5 : decode mM_floatOf.2.1 5 = .ok (.iaload, 1) := by decide +kernel
theorem dM_floatOf_6 : decode mM_floatOf.2.1 6 = .ok (.ifCond .ge 15, 3) := by decide +kernel
theorem dM_floatOf_9 : decode mM_floatOf.2.1 9 = .ok (.aload_n 0, 1) := by decide +kernel
theorem dM_floatOf_10 : decode mM_floatOf.2.1 10 = .ok (.getfield 43, 3) := by decide +kernel
theorem dM_floatOf_13 : decode mM_floatOf.2.1 13 = .ok (.iload_n 1, 1) := by decide +kernel
theorem dM_floatOf_14 : decode mM_floatOf.2.1 14 = .ok (.aload_n 0, 1) := by decide +kernel
theorem dM_floatOf_15 : decode mM_floatOf.2.1 15 = .ok (.iconst 0, 1) := by decide +kernel
theorem dM_floatOf_16 : decode mM_floatOf.2.1 16 = .ok (.iload_n 1, 1) := by decide +kernel
theorem dM_floatOf_17 : decode mM_floatOf.2.1 17 = .ok (.invokevirtual 165, 3) := by decide +kernel
theorem dM_floatOf_20 : decode mM_floatOf.2.1 20 = .ok (.iastore, 1) := by decide +kernel
theorem dM_floatOf_21 : decode mM_floatOf.2.1 21 = .ok (.aload_n 0, 1) := by decide +kernel
theorem dM_floatOf_22 : decode mM_floatOf.2.1 22 = .ok (.getfield 43, 3) := by decide +kernel
theorem dM_floatOf_25 : decode mM_floatOf.2.1 25 = .ok (.iload_n 1, 1) := by decide +kernel
theorem dM_floatOf_26 : decode mM_floatOf.2.1 26 = .ok (.iaload, 1) := by decide +kernel
theorem dM_floatOf_27 : decode mM_floatOf.2.1 27 = .ok (.ireturn, 1) := by decide +kernel
theorem dM_done_0 : decode mM_done.2.1 0 = .ok (.iload_n 0, 1) := by decide +kernel
theorem dM_done_1 : decode mM_done.2.1 1 = .ok (.tableswitch 120 20000 20007 #[47, 61, 75, 86, 97, 108, 112, 116], 47) := by decide +kernel
theorem dM_done_48 : decode mM_done.2.1 48 = .ok (.iload_n 1, 1) := by decide +kernel
theorem dM_done_49 : decode mM_done.2.1 49 = .ok (.ifCond .ne 7, 3) := by decide +kernel
theorem dM_done_52 : decode mM_done.2.1 52 = .ok (.iload_n 2, 1) := by decide +kernel
theorem dM_done_53 : decode mM_done.2.1 53 = .ok (.ifCond .eq 7, 3) := by decide +kernel
theorem dM_done_56 : decode mM_done.2.1 56 = .ok (.iconst 1, 1) := by decide +kernel
theorem dM_done_57 : decode mM_done.2.1 57 = .ok (.goto 4, 3) := by decide +kernel
theorem dM_done_60 : decode mM_done.2.1 60 = .ok (.iconst 0, 1) := by decide +kernel
theorem dM_done_61 : decode mM_done.2.1 61 = .ok (.ireturn, 1) := by decide +kernel
theorem dM_done_62 : decode mM_done.2.1 62 = .ok (.iload_n 1, 1) := by decide +kernel
theorem dM_done_63 : decode mM_done.2.1 63 = .ok (.ifCond .eq 11, 3) := by decide +kernel
theorem dM_done_66 : decode mM_done.2.1 66 = .ok (.iload_n 2, 1) := by decide +kernel
theorem dM_done_67 : decode mM_done.2.1 67 = .ok (.ifCond .eq 7, 3) := by decide +kernel
theorem dM_done_70 : decode mM_done.2.1 70 = .ok (.iconst 1, 1) := by decide +kernel
theorem dM_done_71 : decode mM_done.2.1 71 = .ok (.goto 4, 3) := by decide +kernel
theorem dM_done_74 : decode mM_done.2.1 74 = .ok (.iconst 0, 1) := by decide +kernel
theorem dM_done_75 : decode mM_done.2.1 75 = .ok (.ireturn, 1) := by decide +kernel
theorem dM_done_76 : decode mM_done.2.1 76 = .ok (.iload_n 1, 1) := by decide +kernel
theorem dM_done_77 : decode mM_done.2.1 77 = .ok (.iload_n 2, 1) := by decide +kernel
theorem dM_done_78 : decode mM_done.2.1 78 = .ok (.if_icmp .ge 7, 3) := by decide +kernel
theorem dM_done_81 : decode mM_done.2.1 81 = .ok (.iconst 1, 1) := by decide +kernel
theorem dM_done_82 : decode mM_done.2.1 82 = .ok (.goto 4, 3) := by decide +kernel
theorem dM_done_85 : decode mM_done.2.1 85 = .ok (.iconst 0, 1) := by decide +kernel
theorem dM_done_86 : decode mM_done.2.1 86 = .ok (.ireturn, 1) := by decide +kernel
theorem dM_done_87 : decode mM_done.2.1 87 = .ok (.iload_n 1, 1) := by decide +kernel
theorem dM_done_88 : decode mM_done.2.1 88 = .ok (.iload_n 2, 1) := by decide +kernel
theorem dM_done_89 : decode mM_done.2.1 89 = .ok (.if_icmp .ne 7, 3) := by decide +kernel
theorem dM_done_92 : decode mM_done.2.1 92 = .ok (.iconst 1, 1) := by decide +kernel
theorem dM_done_93 : decode mM_done.2.1 93 = .ok (.goto 4, 3) := by decide +kernel
theorem dM_done_96 : decode mM_done.2.1 96 = .ok (.iconst 0, 1) := by decide +kernel
theorem dM_done_97 : decode mM_done.2.1 97 = .ok (.ireturn, 1) := by decide +kernel
theorem dM_done_98 : decode mM_done.2.1 98 = .ok (.iload_n 1, 1) := by decide +kernel
theorem dM_done_99 : decode mM_done.2.1 99 = .ok (.iload_n 2, 1) := by decide +kernel
theorem dM_done_100 : decode mM_done.2.1 100 = .ok (.if_icmp .le 7, 3) := by decide +kernel
theorem dM_done_103 : decode mM_done.2.1 103 = .ok (.iconst 1, 1) := by decide +kernel
theorem dM_done_104 : decode mM_done.2.1 104 = .ok (.goto 4, 3) := by decide +kernel
theorem dM_done_107 : decode mM_done.2.1 107 = .ok (.iconst 0, 1) := by decide +kernel
theorem dM_done_108 : decode mM_done.2.1 108 = .ok (.ireturn, 1) := by decide +kernel
theorem dM_done_109 : decode mM_done.2.1 109 = .ok (.iload_n 1, 1) := by decide +kernel
theorem dM_done_110 : decode mM_done.2.1 110 = .ok (.iload_n 2, 1) := by decide +kernel
theorem dM_done_111 : decode mM_done.2.1 111 = .ok (.iadd, 1) := by decide +kernel
theorem dM_done_112 : decode mM_done.2.1 112 = .ok (.ireturn, 1) := by decide +kernel
theorem dM_done_113 : decode mM_done.2.1 113 = .ok (.iload_n 1, 1) := by decide +kernel
theorem dM_done_114 : decode mM_done.2.1 114 = .ok (.iload_n 2, 1) := by decide +kernel
theorem dM_done_115 : decode mM_done.2.1 115 = .ok (.isub, 1) := by decide +kernel
theorem dM_done_116 : decode mM_done.2.1 116 = .ok (.ireturn, 1) := by decide +kernel
theorem dM_done_117 : decode mM_done.2.1 117 = .ok (.iload_n 1, 1) := by decide +kernel
theorem dM_done_118 : decode mM_done.2.1 118 = .ok (.iload_n 2, 1) := by decide +kernel
theorem dM_done_119 : decode mM_done.2.1 119 = .ok (.imul, 1) := by decide +kernel
theorem dM_done_120 : decode mM_done.2.1 120 = .ok (.ireturn, 1) := by decide +kernel
theorem dM_done_121 : decode mM_done.2.1 121 = .ok (.iload_n 2, 1) := by decide +kernel
theorem dM_done_122 : decode mM_done.2.1 122 = .ok (.ifCond .ne 7, 3) := by decide +kernel
theorem dM_done_125 : decode mM_done.2.1 125 = .ok (.iconst 0, 1) := by decide +kernel
theorem dM_done_126 : decode mM_done.2.1 126 = .ok (.goto 6, 3) := by decide +kernel
theorem dM_done_129 : decode mM_done.2.1 129 = .ok (.iload_n 1, 1) := by decide +kernel
theorem dM_done_130 : decode mM_done.2.1 130 = .ok (.iload_n 2, 1) := by decide +kernel
theorem dM_done_131 : decode mM_done.2.1 131 = .ok (.idiv, 1) := by decide +kernel
theorem dM_done_132 : decode mM_done.2.1 132 = .ok (.ireturn, 1) := by decide +kernel
theorem dM_claim_0 : decode mM_claim.2.1 0 = .ok (.iload_n 1, 1) := by decide +kernel
theorem dM_claim_1 : decode mM_claim.2.1 1 = .ok (.i2l, 1) := by decide +kernel
theorem dM_claim_2 : decode mM_claim.2.1 2 = .ok (.lconst 0, 1) := by decide +kernel
theorem dM_claim_3 : decode mM_claim.2.1 3 = .ok (.ldc2_w 74, 3) := by decide +kernel
theorem dM_claim_6 : decode mM_claim.2.1 6 = .ok (.invokestatic 68, 3) := by decide +kernel
theorem dM_claim_9 : decode mM_claim.2.1 9 = .ok (.ifCond .ne 10, 3) := by decide +kernel
theorem dM_claim_12 : decode mM_claim.2.1 12 = .ok (.aload_n 0, 1) := by decide +kernel
theorem dM_claim_13 : decode mM_claim.2.1 13 = .ok (.ldc 78, 2) := by decide +kernel
theorem dM_claim_15 : decode mM_claim.2.1 15 = .ok (.invokevirtual 79, 3) := by decide +kernel
theorem dM_claim_18 : decode mM_claim.2.1 18 = .ok (.ireturn, 1) := by decide +kernel
theorem dM_claim_19 : decode mM_claim.2.1 19 = .ok (.aload_n 0, 1) := by decide +kernel
theorem dM_claim_20 : decode mM_claim.2.1 20 = .ok (.aload_n 0, 1) := by decide +kernel
theorem dM_claim_21 : decode mM_claim.2.1 21 = .ok (.getfield 9, 3) := by decide +kernel
theorem dM_claim_24 : decode mM_claim.2.1 24 = .ok (.iconst 0, 1) := by decide +kernel
theorem dM_claim_25 : decode mM_claim.2.1 25 = .ok (.iaload, 1) := by decide +kernel
theorem dM_claim_26 : decode mM_claim.2.1 26 = .ok (.invokevirtual 132, 3) := by decide +kernel
theorem dM_claim_29 : decode mM_claim.2.1 29 = .ok (.istore_n 2, 1) := by decide +kernel
theorem dM_claim_30 : decode mM_claim.2.1 30 = .ok (.aload_n 0, 1) := by decide +kernel
theorem dM_claim_31 : decode mM_claim.2.1 31 = .ok (.aload_n 0, 1) := by decide +kernel
theorem dM_claim_32 : decode mM_claim.2.1 32 = .ok (.iconst 1, 1) := by decide +kernel
theorem dM_claim_33 : decode mM_claim.2.1 33 = .ok (.invokevirtual 264, 3) := by decide +kernel
theorem dM_claim_36 : decode mM_claim.2.1 36 = .ok (.invokevirtual 162, 3) := by decide +kernel
theorem dM_claim_39 : decode mM_claim.2.1 39 = .ok (.istore_n 3, 1) := by decide +kernel
theorem dM_claim_40 : decode mM_claim.2.1 40 = .ok (.iload_n 1, 1) := by decide +kernel
theorem dM_claim_41 : decode mM_claim.2.1 41 = .ok (.tableswitch 68 0 4 #[35, 43, 45, 50, 62], 35) := by decide +kernel
theorem dM_claim_76 : decode mM_claim.2.1 76 = .ok (.iload_n 3, 1) := by decide +kernel
theorem dM_claim_77 : decode mM_claim.2.1 77 = .ok (.aload_n 0, 1) := by decide +kernel
theorem dM_claim_78 : decode mM_claim.2.1 78 = .ok (.iconst 0, 1) := by decide +kernel
theorem dM_claim_79 : decode mM_claim.2.1 79 = .ok (.invokevirtual 162, 3) := by decide +kernel
theorem dM_claim_82 : decode mM_claim.2.1 82 = .ok (.isub, 1) := by decide +kernel
theorem dM_claim_83 : decode mM_claim.2.1 83 = .ok (.ireturn, 1) := by decide +kernel
theorem dM_claim_84 : decode mM_claim.2.1 84 = .ok (.iload_n 3, 1) := by decide +kernel
theorem dM_claim_85 : decode mM_claim.2.1 85 = .ok (.ireturn, 1) := by decide +kernel
theorem dM_claim_86 : decode mM_claim.2.1 86 = .ok (.aload_n 0, 1) := by decide +kernel
theorem dM_claim_87 : decode mM_claim.2.1 87 = .ok (.invokevirtual 267, 3) := by decide +kernel
theorem dM_claim_90 : decode mM_claim.2.1 90 = .ok (.ireturn, 1) := by decide +kernel
theorem dM_claim_91 : decode mM_claim.2.1 91 = .ok (.iconst 0, 1) := by decide +kernel
theorem dM_claim_92 : decode mM_claim.2.1 92 = .ok (.aload_n 0, 1) := by decide +kernel
theorem dM_claim_93 : decode mM_claim.2.1 93 = .ok (.iload_n 2, 1) := by decide +kernel
theorem dM_claim_94 : decode mM_claim.2.1 94 = .ok (.invokevirtual 162, 3) := by decide +kernel
theorem dM_claim_97 : decode mM_claim.2.1 97 = .ok (.iload_n 3, 1) := by decide +kernel
theorem dM_claim_98 : decode mM_claim.2.1 98 = .ok (.isub, 1) := by decide +kernel
theorem dM_claim_99 : decode mM_claim.2.1 99 = .ok (.invokestatic 139, 3) := by decide +kernel
theorem dM_claim_102 : decode mM_claim.2.1 102 = .ok (.ireturn, 1) := by decide +kernel
theorem dM_claim_103 : decode mM_claim.2.1 103 = .ok (.aload_n 0, 1) := by decide +kernel
theorem dM_claim_104 : decode mM_claim.2.1 104 = .ok (.iconst 1, 1) := by decide +kernel
theorem dM_claim_105 : decode mM_claim.2.1 105 = .ok (.invokevirtual 264, 3) := by decide +kernel
theorem dM_claim_108 : decode mM_claim.2.1 108 = .ok (.ireturn, 1) := by decide +kernel
theorem dM_claim_109 : decode mM_claim.2.1 109 = .ok (.iconst 0, 1) := by decide +kernel
theorem dM_claim_110 : decode mM_claim.2.1 110 = .ok (.istore 4, 2) := by decide +kernel
theorem dM_claim_112 : decode mM_claim.2.1 112 = .ok (.iconst 0, 1) := by decide +kernel
theorem dM_claim_113 : decode mM_claim.2.1 113 = .ok (.istore 5, 2) := by decide +kernel
theorem dM_claim_115 : decode mM_claim.2.1 115 = .ok (.iload 5, 2) := by decide +kernel
theorem dM_claim_117 : decode mM_claim.2.1 117 = .ok (.aload_n 0, 1) := by decide +kernel
theorem dM_claim_118 : decode mM_claim.2.1 118 = .ok (.getfield 9, 3) := by decide +kernel
theorem dM_claim_121 : decode mM_claim.2.1 121 = .ok (.iconst 4, 1) := by decide +kernel
theorem dM_claim_122 : decode mM_claim.2.1 122 = .ok (.iaload, 1) := by decide +kernel
theorem dM_claim_123 : decode mM_claim.2.1 123 = .ok (.if_icmp .ge 40, 3) := by decide +kernel
theorem dM_claim_126 : decode mM_claim.2.1 126 = .ok (.iload 4, 2) := by decide +kernel
theorem dM_claim_128 : decode mM_claim.2.1 128 = .ok (.iload_n 2, 1) := by decide +kernel
theorem dM_claim_129 : decode mM_claim.2.1 129 = .ok (.iload 5, 2) := by decide +kernel
theorem dM_claim_131 : decode mM_claim.2.1 131 = .ok (.invokestatic 102, 3) := by decide +kernel
theorem dM_claim_134 : decode mM_claim.2.1 134 = .ok (.ifCond .eq 19, 3) := by decide +kernel
theorem dM_claim_137 : decode mM_claim.2.1 137 = .ok (.aload_n 0, 1) := by decide +kernel
theorem dM_claim_138 : decode mM_claim.2.1 138 = .ok (.iload 5, 2) := by decide +kernel
theorem dM_claim_140 : decode mM_claim.2.1 140 = .ok (.invokevirtual 243, 3) := by decide +kernel
theorem dM_claim_143 : decode mM_claim.2.1 143 = .ok (.ifCond .eq 10, 3) := by decide +kernel
theorem dM_claim_146 : decode mM_claim.2.1 146 = .ok (.iconst 1, 1) := by decide +kernel
theorem dM_claim_147 : decode mM_claim.2.1 147 = .ok (.iload 5, 2) := by decide +kernel
theorem dM_claim_149 : decode mM_claim.2.1 149 = .ok (.ishl, 1) := by decide +kernel
theorem dM_claim_150 : decode mM_claim.2.1 150 = .ok (.goto 4, 3) := by decide +kernel
theorem dM_claim_153 : decode mM_claim.2.1 153 = .ok (.iconst 0, 1) := by decide +kernel
theorem dM_claim_154 : decode mM_claim.2.1 154 = .ok (.ior, 1) := by decide +kernel
theorem dM_claim_155 : decode mM_claim.2.1 155 = .ok (.istore 4, 2) := by decide +kernel
theorem dM_claim_157 : decode mM_claim.2.1 157 = .ok (.iinc 5 1, 3) := by decide +kernel
theorem dM_claim_160 : decode mM_claim.2.1 160 = .ok (.goto (-45), 3) := by decide +kernel
theorem dM_claim_163 : decode mM_claim.2.1 163 = .ok (.iload 4, 2) := by decide +kernel
theorem dM_claim_165 : decode mM_claim.2.1 165 = .ok (.ireturn, 1) := by decide +kernel
theorem dM_withRisk_0 : decode mM_withRisk.2.1 0 = .ok (.aload_n 0, 1) := by decide +kernel
theorem dM_withRisk_1 : decode mM_withRisk.2.1 1 = .ok (.aload_n 0, 1) := by decide +kernel
theorem dM_withRisk_2 : decode mM_withRisk.2.1 2 = .ok (.getfield 9, 3) := by decide +kernel
theorem dM_withRisk_5 : decode mM_withRisk.2.1 5 = .ok (.iconst 0, 1) := by decide +kernel
theorem dM_withRisk_6 : decode mM_withRisk.2.1 6 = .ok (.iaload, 1) := by decide +kernel
theorem dM_withRisk_7 : decode mM_withRisk.2.1 7 = .ok (.invokevirtual 132, 3) := by decide +kernel
theorem dM_withRisk_10 : decode mM_withRisk.2.1 10 = .ok (.istore_n 2, 1) := by decide +kernel
theorem dM_withRisk_11 : decode mM_withRisk.2.1 11 = .ok (.iconst 0, 1) := by decide +kernel
theorem dM_withRisk_12 : decode mM_withRisk.2.1 12 = .ok (.istore_n 3, 1) := by decide +kernel
theorem dM_withRisk_13 : decode mM_withRisk.2.1 13 = .ok (.iconst 0, 1) := by decide +kernel
theorem dM_withRisk_14 : decode mM_withRisk.2.1 14 = .ok (.istore 4, 2) := by decide +kernel
theorem dM_withRisk_16 : decode mM_withRisk.2.1 16 = .ok (.iload 4, 2) := by decide +kernel
theorem dM_withRisk_18 : decode mM_withRisk.2.1 18 = .ok (.aload_n 0, 1) := by decide +kernel
theorem dM_withRisk_19 : decode mM_withRisk.2.1 19 = .ok (.getfield 9, 3) := by decide +kernel
theorem dM_withRisk_22 : decode mM_withRisk.2.1 22 = .ok (.iconst 4, 1) := by decide +kernel
theorem dM_withRisk_23 : decode mM_withRisk.2.1 23 = .ok (.iaload, 1) := by decide +kernel
theorem dM_withRisk_24 : decode mM_withRisk.2.1 24 = .ok (.if_icmp .ge 40, 3) := by decide +kernel
theorem dM_withRisk_27 : decode mM_withRisk.2.1 27 = .ok (.iload_n 3, 1) := by decide +kernel
theorem dM_withRisk_28 : decode mM_withRisk.2.1 28 = .ok (.iload_n 2, 1) := by decide +kernel
theorem dM_withRisk_29 : decode mM_withRisk.2.1 29 = .ok (.iload 4, 2) := by decide +kernel
theorem dM_withRisk_31 : decode mM_withRisk.2.1 31 = .ok (.invokestatic 102, 3) := by decide +kernel
theorem dM_withRisk_34 : decode mM_withRisk.2.1 34 = .ok (.ifCond .eq 21, 3) := by decide +kernel
theorem dM_withRisk_37 : decode mM_withRisk.2.1 37 = .ok (.aload_n 0, 1) := by decide +kernel
theorem dM_withRisk_38 : decode mM_withRisk.2.1 38 = .ok (.iconst 0, 1) := by decide +kernel
theorem dM_withRisk_39 : decode mM_withRisk.2.1 39 = .ok (.iload 4, 2) := by decide +kernel
theorem dM_withRisk_41 : decode mM_withRisk.2.1 41 = .ok (.invokevirtual 261, 3) := by decide +kernel
theorem dM_withRisk_44 : decode mM_withRisk.2.1 44 = .ok (.iload_n 1, 1) := by decide +kernel
theorem dM_withRisk_45 : decode mM_withRisk.2.1 45 = .ok (.if_icmp .lt 10, 3) := by decide +kernel
theorem dM_withRisk_48 : decode mM_withRisk.2.1 48 = .ok (.iconst 1, 1) := by decide +kernel
theorem dM_withRisk_49 : decode mM_withRisk.2.1 49 = .ok (.iload 4, 2) := by decide +kernel
theorem dM_withRisk_51 : decode mM_withRisk.2.1 51 = .ok (.ishl, 1) := by decide +kernel
theorem dM_withRisk_52 : decode mM_withRisk.2.1 52 = .ok (.goto 4, 3) := by decide +kernel
theorem dM_withRisk_55 : decode mM_withRisk.2.1 55 = .ok (.iconst 0, 1) := by decide +kernel
theorem dM_withRisk_56 : decode mM_withRisk.2.1 56 = .ok (.ior, 1) := by decide +kernel
theorem dM_withRisk_57 : decode mM_withRisk.2.1 57 = .ok (.istore_n 3, 1) := by decide +kernel
theorem dM_withRisk_58 : decode mM_withRisk.2.1 58 = .ok (.iinc 4 1, 3) := by decide +kernel
theorem dM_withRisk_61 : decode mM_withRisk.2.1 61 = .ok (.goto (-45), 3) := by decide +kernel
theorem dM_withRisk_64 : decode mM_withRisk.2.1 64 = .ok (.iload_n 3, 1) := by decide +kernel
theorem dM_withRisk_65 : decode mM_withRisk.2.1 65 = .ok (.ireturn, 1) := by decide +kernel
theorem dM_paid_0 : decode mM_paid.2.1 0 = .ok (.aload_n 0, 1) := by decide +kernel
theorem dM_paid_1 : decode mM_paid.2.1 1 = .ok (.iconst 2, 1) := by decide +kernel
theorem dM_paid_2 : decode mM_paid.2.1 2 = .ok (.invokevirtual 264, 3) := by decide +kernel
theorem dM_paid_5 : decode mM_paid.2.1 5 = .ok (.istore_n 1, 1) := by decide +kernel
theorem dM_paid_6 : decode mM_paid.2.1 6 = .ok (.iconst 0, 1) := by decide +kernel
theorem dM_paid_7 : decode mM_paid.2.1 7 = .ok (.istore_n 2, 1) := by decide +kernel
theorem dM_paid_8 : decode mM_paid.2.1 8 = .ok (.iconst 0, 1) := by decide +kernel
theorem dM_paid_9 : decode mM_paid.2.1 9 = .ok (.istore_n 3, 1) := by decide +kernel
theorem dM_paid_10 : decode mM_paid.2.1 10 = .ok (.iload_n 3, 1) := by decide +kernel
theorem dM_paid_11 : decode mM_paid.2.1 11 = .ok (.aload_n 0, 1) := by decide +kernel
theorem dM_paid_12 : decode mM_paid.2.1 12 = .ok (.getfield 9, 3) := by decide +kernel
theorem dM_paid_15 : decode mM_paid.2.1 15 = .ok (.iconst 4, 1) := by decide +kernel
theorem dM_paid_16 : decode mM_paid.2.1 16 = .ok (.iaload, 1) := by decide +kernel
theorem dM_paid_17 : decode mM_paid.2.1 17 = .ok (.if_icmp .ge 37, 3) := by decide +kernel
theorem dM_paid_20 : decode mM_paid.2.1 20 = .ok (.iload_n 2, 1) := by decide +kernel
theorem dM_paid_21 : decode mM_paid.2.1 21 = .ok (.iload_n 1, 1) := by decide +kernel
theorem dM_paid_22 : decode mM_paid.2.1 22 = .ok (.iload_n 3, 1) := by decide +kernel
theorem dM_paid_23 : decode mM_paid.2.1 23 = .ok (.invokestatic 102, 3) := by decide +kernel
theorem dM_paid_26 : decode mM_paid.2.1 26 = .ok (.ifCond .eq 19, 3) := by decide +kernel
theorem dM_paid_29 : decode mM_paid.2.1 29 = .ok (.aload_n 0, 1) := by decide +kernel
theorem dM_paid_30 : decode mM_paid.2.1 30 = .ok (.iload_n 1, 1) := by decide +kernel
theorem dM_paid_31 : decode mM_paid.2.1 31 = .ok (.iload_n 3, 1) := by decide +kernel
theorem dM_paid_32 : decode mM_paid.2.1 32 = .ok (.invokevirtual 176, 3) := by decide +kernel
theorem dM_paid_35 : decode mM_paid.2.1 35 = .ok (.aload_n 0, 1) := by decide +kernel
theorem dM_paid_36 : decode mM_paid.2.1 36 = .ok (.iconst 1, 1) := by decide +kernel
theorem dM_paid_37 : decode mM_paid.2.1 37 = .ok (.iload_n 3, 1) := by decide +kernel
theorem dM_paid_38 : decode mM_paid.2.1 38 = .ok (.invokevirtual 261, 3) := by decide +kernel
theorem dM_paid_41 : decode mM_paid.2.1 41 = .ok (.imul, 1) := by decide +kernel
theorem dM_paid_42 : decode mM_paid.2.1 42 = .ok (.goto 4, 3) := by decide +kernel
theorem dM_paid_45 : decode mM_paid.2.1 45 = .ok (.iconst 0, 1) := by decide +kernel
theorem dM_paid_46 : decode mM_paid.2.1 46 = .ok (.iadd, 1) := by decide +kernel
theorem dM_paid_47 : decode mM_paid.2.1 47 = .ok (.istore_n 2, 1) := by decide +kernel
theorem dM_paid_48 : decode mM_paid.2.1 48 = .ok (.iinc 3 1, 3) := by decide +kernel
theorem dM_paid_51 : decode mM_paid.2.1 51 = .ok (.goto (-41), 3) := by decide +kernel
theorem dM_paid_54 : decode mM_paid.2.1 54 = .ok (.iload_n 2, 1) := by decide +kernel
theorem dM_paid_55 : decode mM_paid.2.1 55 = .ok (.ireturn, 1) := by decide +kernel
theorem dM_hurry_0 : decode mM_hurry.2.1 0 = .ok (.aload_n 0, 1) := by decide +kernel
theorem dM_hurry_1 : decode mM_hurry.2.1 1 = .ok (.iload_n 1, 1) := by decide +kernel
theorem dM_hurry_2 : decode mM_hurry.2.1 2 = .ok (.iconst 2, 1) := by decide +kernel
theorem dM_hurry_3 : decode mM_hurry.2.1 3 = .ok (.invokevirtual 84, 3) := by decide +kernel
theorem dM_hurry_6 : decode mM_hurry.2.1 6 = .ok (.ifCond .eq 27, 3) := by decide +kernel
theorem dM_hurry_9 : decode mM_hurry.2.1 9 = .ok (.iload_n 2, 1) := by decide +kernel
theorem dM_hurry_10 : decode mM_hurry.2.1 10 = .ok (.i2l, 1) := by decide +kernel
theorem dM_hurry_11 : decode mM_hurry.2.1 11 = .ok (.lconst 1, 1) := by decide +kernel
theorem dM_hurry_12 : decode mM_hurry.2.1 12 = .ok (.ldc2_w 171, 3) := by decide +kernel
theorem dM_hurry_15 : decode mM_hurry.2.1 15 = .ok (.invokestatic 68, 3) := by decide +kernel
theorem dM_hurry_18 : decode mM_hurry.2.1 18 = .ok (.ifCond .eq 15, 3) := by decide +kernel
theorem dM_hurry_21 : decode mM_hurry.2.1 21 = .ok (.iload_n 3, 1) := by decide +kernel
theorem dM_hurry_22 : decode mM_hurry.2.1 22 = .ok (.i2l, 1) := by decide +kernel
theorem dM_hurry_23 : decode mM_hurry.2.1 23 = .ok (.lconst 1, 1) := by decide +kernel
theorem dM_hurry_24 : decode mM_hurry.2.1 24 = .ok (.ldc2_w 270, 3) := by decide +kernel
theorem dM_hurry_27 : decode mM_hurry.2.1 27 = .ok (.invokestatic 68, 3) := by decide +kernel
theorem dM_hurry_30 : decode mM_hurry.2.1 30 = .ok (.ifCond .ne 10, 3) := by decide +kernel
theorem dM_hurry_33 : decode mM_hurry.2.1 33 = .ok (.aload_n 0, 1) := by decide +kernel
theorem dM_hurry_34 : decode mM_hurry.2.1 34 = .ok (.ldc 78, 2) := by decide +kernel
theorem dM_hurry_36 : decode mM_hurry.2.1 36 = .ok (.invokevirtual 79, 3) := by decide +kernel
theorem dM_hurry_39 : decode mM_hurry.2.1 39 = .ok (.ireturn, 1) := by decide +kernel
theorem dM_hurry_40 : decode mM_hurry.2.1 40 = .ok (.aload_n 0, 1) := by decide +kernel
theorem dM_hurry_41 : decode mM_hurry.2.1 41 = .ok (.iload_n 1, 1) := by decide +kernel
theorem dM_hurry_42 : decode mM_hurry.2.1 42 = .ok (.invokevirtual 88, 3) := by decide +kernel
theorem dM_hurry_45 : decode mM_hurry.2.1 45 = .ok (.iconst 5, 1) := by decide +kernel
theorem dM_hurry_46 : decode mM_hurry.2.1 46 = .ok (.if_icmp .ne 10, 3) := by decide +kernel
theorem dM_hurry_49 : decode mM_hurry.2.1 49 = .ok (.aload_n 0, 1) := by decide +kernel
theorem dM_hurry_50 : decode mM_hurry.2.1 50 = .ok (.ldc 94, 2) := by decide +kernel
theorem dM_hurry_52 : decode mM_hurry.2.1 52 = .ok (.invokevirtual 79, 3) := by decide +kernel
theorem dM_hurry_55 : decode mM_hurry.2.1 55 = .ok (.ireturn, 1) := by decide +kernel
theorem dM_hurry_56 : decode mM_hurry.2.1 56 = .ok (.aload_n 0, 1) := by decide +kernel
theorem dM_hurry_57 : decode mM_hurry.2.1 57 = .ok (.iload_n 1, 1) := by decide +kernel
theorem dM_hurry_58 : decode mM_hurry.2.1 58 = .ok (.invokevirtual 98, 3) := by decide +kernel
theorem dM_hurry_61 : decode mM_hurry.2.1 61 = .ok (.ifCond .gt 12, 3) := by decide +kernel
theorem dM_hurry_64 : decode mM_hurry.2.1 64 = .ok (.aload_n 0, 1) := by decide +kernel
theorem dM_hurry_65 : decode mM_hurry.2.1 65 = .ok (.iload_n 1, 1) := by decide +kernel
theorem dM_hurry_66 : decode mM_hurry.2.1 66 = .ok (.invokevirtual 95, 3) := by decide +kernel
theorem dM_hurry_69 : decode mM_hurry.2.1 69 = .ok (.iload_n 2, 1) := by decide +kernel
theorem dM_hurry_70 : decode mM_hurry.2.1 70 = .ok (.if_icmp .gt 10, 3) := by decide +kernel
theorem dM_hurry_73 : decode mM_hurry.2.1 73 = .ok (.aload_n 0, 1) := by decide +kernel
theorem dM_hurry_74 : decode mM_hurry.2.1 74 = .ok (.ldc 101, 2) := by decide +kernel
theorem dM_hurry_76 : decode mM_hurry.2.1 76 = .ok (.invokevirtual 79, 3) := by decide +kernel
theorem dM_hurry_79 : decode mM_hurry.2.1 79 = .ok (.ireturn, 1) := by decide +kernel
theorem dM_hurry_80 : decode mM_hurry.2.1 80 = .ok (.aload_n 0, 1) := by decide +kernel
theorem dM_hurry_81 : decode mM_hurry.2.1 81 = .ok (.getfield 9, 3) := by decide +kernel
theorem dM_hurry_84 : decode mM_hurry.2.1 84 = .ok (.bipush 6, 2) := by decide +kernel
theorem dM_hurry_86 : decode mM_hurry.2.1 86 = .ok (.iaload, 1) := by decide +kernel
theorem dM_hurry_87 : decode mM_hurry.2.1 87 = .ok (.istore 4, 2) := by decide +kernel
theorem dM_hurry_89 : decode mM_hurry.2.1 89 = .ok (.iload 4, 2) := by decide +kernel
theorem dM_hurry_91 : decode mM_hurry.2.1 91 = .ok (.iconst 5, 1) := by decide +kernel
theorem dM_hurry_92 : decode mM_hurry.2.1 92 = .ok (.if_icmp .ne 10, 3) := by decide +kernel
theorem dM_hurry_95 : decode mM_hurry.2.1 95 = .ok (.aload_n 0, 1) := by decide +kernel
theorem dM_hurry_96 : decode mM_hurry.2.1 96 = .ok (.ldc 83, 2) := by decide +kernel
theorem dM_hurry_98 : decode mM_hurry.2.1 98 = .ok (.invokevirtual 79, 3) := by decide +kernel
theorem dM_hurry_101 : decode mM_hurry.2.1 101 = .ok (.ireturn, 1) := by decide +kernel
theorem dM_hurry_102 : decode mM_hurry.2.1 102 = .ok (.aload_n 0, 1) := by decide +kernel
theorem dM_hurry_103 : decode mM_hurry.2.1 103 = .ok (.getfield 9, 3) := by decide +kernel
theorem dM_hurry_106 : decode mM_hurry.2.1 106 = .ok (.sipush 1018, 3) := by decide +kernel
theorem dM_hurry_109 : decode mM_hurry.2.1 109 = .ok (.iconst 3, 1) := by decide +kernel
theorem dM_hurry_110 : decode mM_hurry.2.1 110 = .ok (.iload 4, 2) := by decide +kernel
theorem dM_hurry_112 : decode mM_hurry.2.1 112 = .ok (.imul, 1) := by decide +kernel
theorem dM_hurry_113 : decode mM_hurry.2.1 113 = .ok (.iadd, 1) := by decide +kernel
theorem dM_hurry_114 : decode mM_hurry.2.1 114 = .ok (.iload_n 1, 1) := by decide +kernel
theorem dM_hurry_115 : decode mM_hurry.2.1 115 = .ok (.iastore, 1) := by decide +kernel
theorem dM_hurry_116 : decode mM_hurry.2.1 116 = .ok (.aload_n 0, 1) := by decide +kernel
theorem dM_hurry_117 : decode mM_hurry.2.1 117 = .ok (.getfield 9, 3) := by decide +kernel
theorem dM_hurry_120 : decode mM_hurry.2.1 120 = .ok (.sipush 1018, 3) := by decide +kernel
theorem dM_hurry_123 : decode mM_hurry.2.1 123 = .ok (.iconst 3, 1) := by decide +kernel
theorem dM_hurry_124 : decode mM_hurry.2.1 124 = .ok (.iload 4, 2) := by decide +kernel
theorem dM_hurry_126 : decode mM_hurry.2.1 126 = .ok (.imul, 1) := by decide +kernel
theorem dM_hurry_127 : decode mM_hurry.2.1 127 = .ok (.iadd, 1) := by decide +kernel
theorem dM_hurry_128 : decode mM_hurry.2.1 128 = .ok (.iconst 1, 1) := by decide +kernel
theorem dM_hurry_129 : decode mM_hurry.2.1 129 = .ok (.iadd, 1) := by decide +kernel
theorem dM_hurry_130 : decode mM_hurry.2.1 130 = .ok (.iload_n 2, 1) := by decide +kernel
theorem dM_hurry_131 : decode mM_hurry.2.1 131 = .ok (.iastore, 1) := by decide +kernel
theorem dM_hurry_132 : decode mM_hurry.2.1 132 = .ok (.aload_n 0, 1) := by decide +kernel
theorem dM_hurry_133 : decode mM_hurry.2.1 133 = .ok (.getfield 9, 3) := by decide +kernel
theorem dM_hurry_136 : decode mM_hurry.2.1 136 = .ok (.sipush 1018, 3) := by decide +kernel
theorem dM_hurry_139 : decode mM_hurry.2.1 139 = .ok (.iconst 3, 1) := by decide +kernel
theorem dM_hurry_140 : decode mM_hurry.2.1 140 = .ok (.iload 4, 2) := by decide +kernel
theorem dM_hurry_142 : decode mM_hurry.2.1 142 = .ok (.imul, 1) := by decide +kernel
theorem dM_hurry_143 : decode mM_hurry.2.1 143 = .ok (.iadd, 1) := by decide +kernel
theorem dM_hurry_144 : decode mM_hurry.2.1 144 = .ok (.iconst 2, 1) := by decide +kernel
theorem dM_hurry_145 : decode mM_hurry.2.1 145 = .ok (.iadd, 1) := by decide +kernel
theorem dM_hurry_146 : decode mM_hurry.2.1 146 = .ok (.iload_n 3, 1) := by decide +kernel
theorem dM_hurry_147 : decode mM_hurry.2.1 147 = .ok (.iastore, 1) := by decide +kernel
theorem dM_hurry_148 : decode mM_hurry.2.1 148 = .ok (.aload_n 0, 1) := by decide +kernel
theorem dM_hurry_149 : decode mM_hurry.2.1 149 = .ok (.getfield 9, 3) := by decide +kernel
theorem dM_hurry_152 : decode mM_hurry.2.1 152 = .ok (.bipush 6, 2) := by decide +kernel
theorem dM_hurry_154 : decode mM_hurry.2.1 154 = .ok (.dup2, 1) := by decide +kernel
theorem dM_hurry_155 : decode mM_hurry.2.1 155 = .ok (.iaload, 1) := by decide +kernel
theorem dM_hurry_156 : decode mM_hurry.2.1 156 = .ok (.iconst 1, 1) := by decide +kernel
theorem dM_hurry_157 : decode mM_hurry.2.1 157 = .ok (.iadd, 1) := by decide +kernel
theorem dM_hurry_158 : decode mM_hurry.2.1 158 = .ok (.iastore, 1) := by decide +kernel
theorem dM_hurry_159 : decode mM_hurry.2.1 159 = .ok (.aload_n 0, 1) := by decide +kernel
theorem dM_hurry_160 : decode mM_hurry.2.1 160 = .ok (.getfield 9, 3) := by decide +kernel
theorem dM_hurry_163 : decode mM_hurry.2.1 163 = .ok (.bipush 6, 2) := by decide +kernel
theorem dM_hurry_165 : decode mM_hurry.2.1 165 = .ok (.iaload, 1) := by decide +kernel
theorem dM_hurry_166 : decode mM_hurry.2.1 166 = .ok (.ireturn, 1) := by decide +kernel
theorem dM_calm_0 : decode mM_calm.2.1 0 = .ok (.aload_n 0, 1) := by decide +kernel
theorem dM_calm_1 : decode mM_calm.2.1 1 = .ok (.getfield 9, 3) := by decide +kernel
theorem dM_calm_4 : decode mM_calm.2.1 4 = .ok (.bipush 6, 2) := by decide +kernel
theorem dM_calm_6 : decode mM_calm.2.1 6 = .ok (.iaload, 1) := by decide +kernel
theorem dM_calm_7 : decode mM_calm.2.1 7 = .ok (.istore_n 1, 1) := by decide +kernel
theorem dM_calm_8 : decode mM_calm.2.1 8 = .ok (.aload_n 0, 1) := by decide +kernel
theorem dM_calm_9 : decode mM_calm.2.1 9 = .ok (.getfield 9, 3) := by decide +kernel
theorem dM_calm_12 : decode mM_calm.2.1 12 = .ok (.bipush 6, 2) := by decide +kernel
theorem dM_calm_14 : decode mM_calm.2.1 14 = .ok (.iconst 0, 1) := by decide +kernel
theorem dM_calm_15 : decode mM_calm.2.1 15 = .ok (.iastore, 1) := by decide +kernel
theorem dM_calm_16 : decode mM_calm.2.1 16 = .ok (.iload_n 1, 1) := by decide +kernel
theorem dM_calm_17 : decode mM_calm.2.1 17 = .ok (.ireturn, 1) := by decide +kernel
theorem dM_least_0 : decode mM_least.2.1 0 = .ok (.iload_n 1, 1) := by decide +kernel
theorem dM_least_1 : decode mM_least.2.1 1 = .ok (.i2l, 1) := by decide +kernel
theorem dM_least_2 : decode mM_least.2.1 2 = .ok (.lconst 0, 1) := by decide +kernel
theorem dM_least_3 : decode mM_least.2.1 3 = .ok (.ldc2_w 278, 3) := by decide +kernel
theorem dM_least_6 : decode mM_least.2.1 6 = .ok (.invokestatic 68, 3) := by decide +kernel
theorem dM_least_9 : decode mM_least.2.1 9 = .ok (.ifCond .eq 24, 3) := by decide +kernel
theorem dM_least_12 : decode mM_least.2.1 12 = .ok (.iload_n 2, 1) := by decide +kernel
theorem dM_least_13 : decode mM_least.2.1 13 = .ok (.i2l, 1) := by decide +kernel
theorem dM_least_14 : decode mM_least.2.1 14 = .ok (.ldc2_w 183, 3) := by decide +kernel
theorem dM_least_17 : decode mM_least.2.1 17 = .ok (.aload_n 0, 1) := by decide +kernel
theorem dM_least_18 : decode mM_least.2.1 18 = .ok (.getfield 9, 3) := by decide +kernel
theorem dM_least_21 : decode mM_least.2.1 21 = .ok (.bipush 6, 2) := by decide +kernel
theorem dM_least_23 : decode mM_least.2.1 23 = .ok (.iaload, 1) := by decide +kernel
theorem dM_least_24 : decode mM_least.2.1 24 = .ok (.iconst 1, 1) := by decide +kernel
theorem dM_least_25 : decode mM_least.2.1 25 = .ok (.isub, 1) := by decide +kernel
theorem dM_least_26 : decode mM_least.2.1 26 = .ok (.i2l, 1) := by decide +kernel
theorem dM_least_27 : decode mM_least.2.1 27 = .ok (.invokestatic 68, 3) := by decide +kernel
theorem dM_least_30 : decode mM_least.2.1 30 = .ok (.ifCond .ne 10, 3) := by decide +kernel
theorem dM_least_33 : decode mM_least.2.1 33 = .ok (.aload_n 0, 1) := by decide +kernel
theorem dM_least_34 : decode mM_least.2.1 34 = .ok (.ldc 78, 2) := by decide +kernel
theorem dM_least_36 : decode mM_least.2.1 36 = .ok (.invokevirtual 79, 3) := by decide +kernel
theorem dM_least_39 : decode mM_least.2.1 39 = .ok (.ireturn, 1) := by decide +kernel
theorem dM_least_40 : decode mM_least.2.1 40 = .ok (.aload_n 0, 1) := by decide +kernel
theorem dM_least_41 : decode mM_least.2.1 41 = .ok (.iload_n 1, 1) := by decide +kernel
theorem dM_least_42 : decode mM_least.2.1 42 = .ok (.invokevirtual 280, 3) := by decide +kernel
theorem dM_least_45 : decode mM_least.2.1 45 = .ok (.istore_n 3, 1) := by decide +kernel
theorem dM_least_46 : decode mM_least.2.1 46 = .ok (.iload_n 3, 1) := by decide +kernel
theorem dM_least_47 : decode mM_least.2.1 47 = .ok (.ifCond .ge 12, 3) := by decide +kernel
theorem dM_least_50 : decode mM_least.2.1 50 = .ok (.aload_n 0, 1) := by decide +kernel
theorem dM_least_51 : decode mM_least.2.1 51 = .ok (.ldc 114, 2) := by decide +kernel
theorem dM_least_53 : decode mM_least.2.1 53 = .ok (.invokevirtual 79, 3) := by decide +kernel
theorem dM_least_56 : decode mM_least.2.1 56 = .ok (.goto 17, 3) := by decide +kernel
theorem dM_least_59 : decode mM_least.2.1 59 = .ok (.iload_n 2, 1) := by decide +kernel
theorem dM_least_60 : decode mM_least.2.1 60 = .ok (.ifCond .ge 7, 3) := by decide +kernel
theorem dM_least_63 : decode mM_least.2.1 63 = .ok (.iload_n 3, 1) := by decide +kernel
theorem dM_least_64 : decode mM_least.2.1 64 = .ok (.goto 9, 3) := by decide +kernel
theorem dM_least_67 : decode mM_least.2.1 67 = .ok (.aload_n 0, 1) := by decide +kernel
theorem dM_least_68 : decode mM_least.2.1 68 = .ok (.getfield 58, 3) := by decide +kernel
theorem dM_least_71 : decode mM_least.2.1 71 = .ok (.iload_n 2, 1) := by decide +kernel
theorem dM_least_72 : decode mM_least.2.1 72 = .ok (.iaload, 1) := by decide +kernel
theorem dM_least_73 : decode mM_least.2.1 73 = .ok (.ireturn, 1) := by decide +kernel
theorem dM_leastFor_0 : decode mM_leastFor.2.1 0 = .ok (.iconst (-1), 1) := by decide +kernel
theorem dM_leastFor_1 : decode mM_leastFor.2.1 1 = .ok (.istore_n 2, 1) := by decide +kernel
theorem dM_leastFor_2 : decode mM_leastFor.2.1 2 = .ok (.iconst 0, 1) := by decide +kernel
theorem dM_leastFor_3 : decode mM_leastFor.2.1 3 = .ok (.istore_n 3, 1) := by decide +kernel
theorem dM_leastFor_4 : decode mM_leastFor.2.1 4 = .ok (.iload_n 3, 1) := by decide +kernel
theorem dM_leastFor_5 : decode mM_leastFor.2.1 5 = .ok (.iconst 5, 1) := by decide +kernel
theorem dM_leastFor_6 : decode mM_leastFor.2.1 6 = .ok (.if_icmp .ge 16, 3) := by decide +kernel
theorem dM_leastFor_9 : decode mM_leastFor.2.1 9 = .ok (.aload_n 0, 1) := by decide +kernel
theorem dM_leastFor_10 : decode mM_leastFor.2.1 10 = .ok (.getfield 55, 3) := by decide +kernel
theorem dM_leastFor_13 : decode mM_leastFor.2.1 13 = .ok (.iload_n 3, 1) := by decide +kernel
theorem dM_leastFor_14 : decode mM_leastFor.2.1 14 = .ok (.iconst 0, 1) := by decide +kernel
theorem dM_leastFor_15 : decode mM_leastFor.2.1 15 = .ok (.iastore, 1) := by decide +kernel
theorem dM_leastFor_16 : decode mM_leastFor.2.1 16 = .ok (.iinc 3 1, 3) := by decide +kernel
theorem dM_leastFor_19 : decode mM_leastFor.2.1 19 = .ok (.goto (-15), 3) := by decide +kernel
theorem dM_leastFor_22 : decode mM_leastFor.2.1 22 = .ok (.iconst 1, 1) := by decide +kernel
theorem dM_leastFor_23 : decode mM_leastFor.2.1 23 = .ok (.istore_n 3, 1) := by decide +kernel
theorem dM_leastFor_24 : decode mM_leastFor.2.1 24 = .ok (.iload_n 3, 1) := by decide +kernel
theorem dM_leastFor_25 : decode mM_leastFor.2.1 25 = .ok (.ifCond .eq 143, 3) := by decide +kernel
theorem dM_leastFor_28 : decode mM_leastFor.2.1 28 = .ok (.aload_n 0, 1) := by decide +kernel
theorem dM_leastFor_29 : decode mM_leastFor.2.1 29 = .ok (.invokevirtual 272, 3) := by decide +kernel
theorem dM_leastFor_32 : decode mM_leastFor.2.1 32 = .ok (.istore 4, 2) := by decide +kernel
theorem dM_leastFor_34 : decode mM_leastFor.2.1 34 = .ok (.iload_n 2, 1) := by decide +kernel
theorem dM_leastFor_35 : decode mM_leastFor.2.1 35 = .ok (.ifCond .lt 9, 3) := by decide +kernel
theorem dM_leastFor_38 : decode mM_leastFor.2.1 38 = .ok (.iload 4, 2) := by decide +kernel
theorem dM_leastFor_40 : decode mM_leastFor.2.1 40 = .ok (.iload_n 2, 1) := by decide +kernel
theorem dM_leastFor_41 : decode mM_leastFor.2.1 41 = .ok (.if_icmp .ge 43, 3) := by decide +kernel
theorem dM_leastFor_44 : decode mM_leastFor.2.1 44 = .ok (.aload_n 0, 1) := by decide +kernel
theorem dM_leastFor_45 : decode mM_leastFor.2.1 45 = .ok (.invokevirtual 275, 3) := by decide +kernel
theorem dM_leastFor_48 : decode mM_leastFor.2.1 48 = .ok (.iload_n 1, 1) := by decide +kernel
theorem dM_leastFor_49 : decode mM_leastFor.2.1 49 = .ok (.if_icmp .gt 35, 3) := by decide +kernel
theorem dM_leastFor_52 : decode mM_leastFor.2.1 52 = .ok (.iload 4, 2) := by decide +kernel
theorem dM_leastFor_54 : decode mM_leastFor.2.1 54 = .ok (.istore_n 2, 1) := by decide +kernel
theorem dM_leastFor_55 : decode mM_leastFor.2.1 55 = .ok (.iconst 0, 1) := by decide +kernel
theorem dM_leastFor_56 : decode mM_leastFor.2.1 56 = .ok (.istore 5, 2) := by decide +kernel
theorem dM_leastFor_58 : decode mM_leastFor.2.1 58 = .ok (.iload 5, 2) := by decide +kernel
theorem dM_leastFor_60 : decode mM_leastFor.2.1 60 = .ok (.iconst 5, 1) := by decide +kernel
theorem dM_leastFor_61 : decode mM_leastFor.2.1 61 = .ok (.if_icmp .ge 23, 3) := by decide +kernel
theorem dM_leastFor_64 : decode mM_leastFor.2.1 64 = .ok (.aload_n 0, 1) := by decide +kernel
theorem dM_leastFor_65 : decode mM_leastFor.2.1 65 = .ok (.getfield 58, 3) := by decide +kernel
theorem dM_leastFor_68 : decode mM_leastFor.2.1 68 = .ok (.iload 5, 2) := by decide +kernel
theorem dM_leastFor_70 : decode mM_leastFor.2.1 70 = .ok (.aload_n 0, 1) := by decide +kernel
theorem dM_leastFor_71 : decode mM_leastFor.2.1 71 = .ok (.getfield 55, 3) := by decide +kernel
theorem dM_leastFor_74 : decode mM_leastFor.2.1 74 = .ok (.iload 5, 2) := by decide +kernel
theorem dM_leastFor_76 : decode mM_leastFor.2.1 76 = .ok (.iaload, 1) := by decide +kernel
theorem dM_leastFor_77 : decode mM_leastFor.2.1 77 = .ok (.iastore, 1) := by decide +kernel
theorem dM_leastFor_78 : decode mM_leastFor.2.1 78 = .ok (.iinc 5 1, 3) := by decide +kernel
theorem dM_leastFor_81 : decode mM_leastFor.2.1 81 = .ok (.goto (-23), 3) := by decide +kernel
theorem dM_leastFor_84 : decode mM_leastFor.2.1 84 = .ok (.aload_n 0, 1) := by decide +kernel
theorem dM_leastFor_85 : decode mM_leastFor.2.1 85 = .ok (.getfield 9, 3) := by decide +kernel
theorem dM_leastFor_88 : decode mM_leastFor.2.1 88 = .ok (.bipush 6, 2) := by decide +kernel
theorem dM_leastFor_90 : decode mM_leastFor.2.1 90 = .ok (.iaload, 1) := by decide +kernel
theorem dM_leastFor_91 : decode mM_leastFor.2.1 91 = .ok (.iconst 1, 1) := by decide +kernel
theorem dM_leastFor_92 : decode mM_leastFor.2.1 92 = .ok (.isub, 1) := by decide +kernel
theorem dM_leastFor_93 : decode mM_leastFor.2.1 93 = .ok (.istore 5, 2) := by decide +kernel
theorem dM_leastFor_95 : decode mM_leastFor.2.1 95 = .ok (.iload 5, 2) := by decide +kernel
theorem dM_leastFor_97 : decode mM_leastFor.2.1 97 = .ok (.ifCond .lt 42, 3) := by decide +kernel
theorem dM_leastFor_100 : decode mM_leastFor.2.1 100 = .ok (.aload_n 0, 1) := by decide +kernel
theorem dM_leastFor_101 : decode mM_leastFor.2.1 101 = .ok (.getfield 55, 3) := by decide +kernel
theorem dM_leastFor_104 : decode mM_leastFor.2.1 104 = .ok (.iload 5, 2) := by decide +kernel
theorem dM_leastFor_106 : decode mM_leastFor.2.1 106 = .ok (.iaload, 1) := by decide +kernel
theorem dM_leastFor_107 : decode mM_leastFor.2.1 107 = .ok (.aload_n 0, 1) := by decide +kernel
theorem dM_leastFor_108 : decode mM_leastFor.2.1 108 = .ok (.getfield 9, 3) := by decide +kernel
theorem dM_leastFor_111 : decode mM_leastFor.2.1 111 = .ok (.sipush 1018, 3) := by decide +kernel
theorem dM_leastFor_114 : decode mM_leastFor.2.1 114 = .ok (.iconst 3, 1) := by decide +kernel
theorem dM_leastFor_115 : decode mM_leastFor.2.1 115 = .ok (.iload 5, 2) := by decide +kernel
theorem dM_leastFor_117 : decode mM_leastFor.2.1 117 = .ok (.imul, 1) := by decide +kernel
theorem dM_leastFor_118 : decode mM_leastFor.2.1 118 = .ok (.iadd, 1) := by decide +kernel
theorem dM_leastFor_119 : decode mM_leastFor.2.1 119 = .ok (.iconst 1, 1) := by decide +kernel
theorem dM_leastFor_120 : decode mM_leastFor.2.1 120 = .ok (.iadd, 1) := by decide +kernel
theorem dM_leastFor_121 : decode mM_leastFor.2.1 121 = .ok (.iaload, 1) := by decide +kernel
theorem dM_leastFor_122 : decode mM_leastFor.2.1 122 = .ok (.if_icmp .ne 17, 3) := by decide +kernel
theorem dM_leastFor_125 : decode mM_leastFor.2.1 125 = .ok (.aload_n 0, 1) := by decide +kernel
theorem dM_leastFor_126 : decode mM_leastFor.2.1 126 = .ok (.getfield 55, 3) := by decide +kernel
theorem dM_leastFor_129 : decode mM_leastFor.2.1 129 = .ok (.iload 5, 2) := by decide +kernel
theorem dM_leastFor_131 : decode mM_leastFor.2.1 131 = .ok (.iconst 0, 1) := by decide +kernel
theorem dM_leastFor_132 : decode mM_leastFor.2.1 132 = .ok (.iastore, 1) := by decide +kernel
theorem dM_leastFor_133 : decode mM_leastFor.2.1 133 = .ok (.iinc 5 (-1), 3) := by decide +kernel
theorem dM_leastFor_136 : decode mM_leastFor.2.1 136 = .ok (.goto (-41), 3) := by decide +kernel
theorem dM_leastFor_139 : decode mM_leastFor.2.1 139 = .ok (.iload 5, 2) := by decide +kernel
theorem dM_leastFor_141 : decode mM_leastFor.2.1 141 = .ok (.ifCond .lt 7, 3) := by decide +kernel
theorem dM_leastFor_144 : decode mM_leastFor.2.1 144 = .ok (.iconst 1, 1) := by decide +kernel
theorem dM_leastFor_145 : decode mM_leastFor.2.1 145 = .ok (.goto 4, 3) := by decide +kernel
theorem dM_leastFor_148 : decode mM_leastFor.2.1 148 = .ok (.iconst 0, 1) := by decide +kernel
theorem dM_leastFor_149 : decode mM_leastFor.2.1 149 = .ok (.istore_n 3, 1) := by decide +kernel
theorem dM_leastFor_150 : decode mM_leastFor.2.1 150 = .ok (.iload_n 3, 1) := by decide +kernel
theorem dM_leastFor_151 : decode mM_leastFor.2.1 151 = .ok (.ifCond .eq 14, 3) := by decide +kernel
theorem dM_leastFor_154 : decode mM_leastFor.2.1 154 = .ok (.aload_n 0, 1) := by decide +kernel
theorem dM_leastFor_155 : decode mM_leastFor.2.1 155 = .ok (.getfield 55, 3) := by decide +kernel
theorem dM_leastFor_158 : decode mM_leastFor.2.1 158 = .ok (.iload 5, 2) := by decide +kernel
theorem dM_leastFor_160 : decode mM_leastFor.2.1 160 = .ok (.dup2, 1) := by decide +kernel
theorem dM_leastFor_161 : decode mM_leastFor.2.1 161 = .ok (.iaload, 1) := by decide +kernel
theorem dM_leastFor_162 : decode mM_leastFor.2.1 162 = .ok (.iconst 1, 1) := by decide +kernel
theorem dM_leastFor_163 : decode mM_leastFor.2.1 163 = .ok (.iadd, 1) := by decide +kernel
theorem dM_leastFor_164 : decode mM_leastFor.2.1 164 = .ok (.iastore, 1) := by decide +kernel
theorem dM_leastFor_165 : decode mM_leastFor.2.1 165 = .ok (.goto (-141), 3) := by decide +kernel
theorem dM_leastFor_168 : decode mM_leastFor.2.1 168 = .ok (.iload_n 2, 1) := by decide +kernel
theorem dM_leastFor_169 : decode mM_leastFor.2.1 169 = .ok (.ireturn, 1) := by decide +kernel
theorem dM_sumHurried_0 : decode mM_sumHurried.2.1 0 = .ok (.iconst 0, 1) := by decide +kernel
theorem dM_sumHurried_1 : decode mM_sumHurried.2.1 1 = .ok (.istore_n 1, 1) := by decide +kernel
theorem dM_sumHurried_2 : decode mM_sumHurried.2.1 2 = .ok (.iconst 0, 1) := by decide +kernel
theorem dM_sumHurried_3 : decode mM_sumHurried.2.1 3 = .ok (.istore_n 2, 1) := by decide +kernel
theorem dM_sumHurried_4 : decode mM_sumHurried.2.1 4 = .ok (.iload_n 2, 1) := by decide +kernel
theorem dM_sumHurried_5 : decode mM_sumHurried.2.1 5 = .ok (.aload_n 0, 1) := by decide +kernel
theorem dM_sumHurried_6 : decode mM_sumHurried.2.1 6 = .ok (.getfield 9, 3) := by decide +kernel
theorem dM_sumHurried_9 : decode mM_sumHurried.2.1 9 = .ok (.bipush 6, 2) := by decide +kernel
theorem dM_sumHurried_11 : decode mM_sumHurried.2.1 11 = .ok (.iaload, 1) := by decide +kernel
theorem dM_sumHurried_12 : decode mM_sumHurried.2.1 12 = .ok (.if_icmp .ge 33, 3) := by decide +kernel
theorem dM_sumHurried_15 : decode mM_sumHurried.2.1 15 = .ok (.iload_n 1, 1) := by decide +kernel
theorem dM_sumHurried_16 : decode mM_sumHurried.2.1 16 = .ok (.aload_n 0, 1) := by decide +kernel
theorem dM_sumHurried_17 : decode mM_sumHurried.2.1 17 = .ok (.getfield 55, 3) := by decide +kernel
theorem dM_sumHurried_20 : decode mM_sumHurried.2.1 20 = .ok (.iload_n 2, 1) := by decide +kernel
theorem dM_sumHurried_21 : decode mM_sumHurried.2.1 21 = .ok (.iaload, 1) := by decide +kernel
theorem dM_sumHurried_22 : decode mM_sumHurried.2.1 22 = .ok (.aload_n 0, 1) := by decide +kernel
theorem dM_sumHurried_23 : decode mM_sumHurried.2.1 23 = .ok (.getfield 9, 3) := by decide +kernel
theorem dM_sumHurried_26 : decode mM_sumHurried.2.1 26 = .ok (.sipush 1018, 3) := by decide +kernel
theorem dM_sumHurried_29 : decode mM_sumHurried.2.1 29 = .ok (.iconst 3, 1) := by decide +kernel
theorem dM_sumHurried_30 : decode mM_sumHurried.2.1 30 = .ok (.iload_n 2, 1) := by decide +kernel
theorem dM_sumHurried_31 : decode mM_sumHurried.2.1 31 = .ok (.imul, 1) := by decide +kernel
theorem dM_sumHurried_32 : decode mM_sumHurried.2.1 32 = .ok (.iadd, 1) := by decide +kernel
theorem dM_sumHurried_33 : decode mM_sumHurried.2.1 33 = .ok (.iconst 2, 1) := by decide +kernel
theorem dM_sumHurried_34 : decode mM_sumHurried.2.1 34 = .ok (.iadd, 1) := by decide +kernel
theorem dM_sumHurried_35 : decode mM_sumHurried.2.1 35 = .ok (.iaload, 1) := by decide +kernel
theorem dM_sumHurried_36 : decode mM_sumHurried.2.1 36 = .ok (.imul, 1) := by decide +kernel
theorem dM_sumHurried_37 : decode mM_sumHurried.2.1 37 = .ok (.iadd, 1) := by decide +kernel
theorem dM_sumHurried_38 : decode mM_sumHurried.2.1 38 = .ok (.istore_n 1, 1) := by decide +kernel
theorem dM_sumHurried_39 : decode mM_sumHurried.2.1 39 = .ok (.iinc 2 1, 3) := by decide +kernel
theorem dM_sumHurried_42 : decode mM_sumHurried.2.1 42 = .ok (.goto (-38), 3) := by decide +kernel
theorem dM_sumHurried_45 : decode mM_sumHurried.2.1 45 = .ok (.iload_n 1, 1) := by decide +kernel
theorem dM_sumHurried_46 : decode mM_sumHurried.2.1 46 = .ok (.ireturn, 1) := by decide +kernel
theorem dM_endHurried_0 : decode mM_endHurried.2.1 0 = .ok (.aload_n 0, 1) := by decide +kernel
theorem dM_endHurried_1 : decode mM_endHurried.2.1 1 = .ok (.aload_n 0, 1) := by decide +kernel
theorem dM_endHurried_2 : decode mM_endHurried.2.1 2 = .ok (.aload_n 0, 1) := by decide +kernel
theorem dM_endHurried_3 : decode mM_endHurried.2.1 3 = .ok (.getfield 9, 3) := by decide +kernel
theorem dM_endHurried_6 : decode mM_endHurried.2.1 6 = .ok (.iconst 0, 1) := by decide +kernel
theorem dM_endHurried_7 : decode mM_endHurried.2.1 7 = .ok (.iaload, 1) := by decide +kernel
theorem dM_endHurried_8 : decode mM_endHurried.2.1 8 = .ok (.invokevirtual 132, 3) := by decide +kernel
theorem dM_endHurried_11 : decode mM_endHurried.2.1 11 = .ok (.invokevirtual 154, 3) := by decide +kernel
theorem dM_endHurried_14 : decode mM_endHurried.2.1 14 = .ok (.iconst 0, 1) := by decide +kernel
theorem dM_endHurried_15 : decode mM_endHurried.2.1 15 = .ok (.istore_n 1, 1) := by decide +kernel
theorem dM_endHurried_16 : decode mM_endHurried.2.1 16 = .ok (.iload_n 1, 1) := by decide +kernel
theorem dM_endHurried_17 : decode mM_endHurried.2.1 17 = .ok (.aload_n 0, 1) := by decide +kernel
theorem dM_endHurried_18 : decode mM_endHurried.2.1 18 = .ok (.getfield 9, 3) := by decide +kernel
theorem dM_endHurried_21 : decode mM_endHurried.2.1 21 = .ok (.bipush 6, 2) := by decide +kernel
theorem dM_endHurried_23 : decode mM_endHurried.2.1 23 = .ok (.iaload, 1) := by decide +kernel
theorem dM_endHurried_24 : decode mM_endHurried.2.1 24 = .ok (.if_icmp .ge 35, 3) := by decide +kernel
theorem dM_endHurried_27 : decode mM_endHurried.2.1 27 = .ok (.aload_n 0, 1) := by decide +kernel
theorem dM_endHurried_28 : decode mM_endHurried.2.1 28 = .ok (.getfield 31, 3) := by decide +kernel
theorem dM_endHurried_31 : decode mM_endHurried.2.1 31 = .ok (.aload_n 0, 1) := by decide +kernel
theorem dM_endHurried_32 : decode mM_endHurried.2.1 32 = .ok (.getfield 9, 3) := by decide +kernel
theorem dM_endHurried_35 : decode mM_endHurried.2.1 35 = .ok (.sipush 1018, 3) := by decide +kernel
theorem dM_endHurried_38 : decode mM_endHurried.2.1 38 = .ok (.iconst 3, 1) := by decide +kernel
theorem dM_endHurried_39 : decode mM_endHurried.2.1 39 = .ok (.iload_n 1, 1) := by decide +kernel
theorem dM_endHurried_40 : decode mM_endHurried.2.1 40 = .ok (.imul, 1) := by decide +kernel
theorem dM_endHurried_41 : decode mM_endHurried.2.1 41 = .ok (.iadd, 1) := by decide +kernel
theorem dM_endHurried_42 : decode mM_endHurried.2.1 42 = .ok (.iaload, 1) := by decide +kernel
theorem dM_endHurried_43 : decode mM_endHurried.2.1 43 = .ok (.dup2, 1) := by decide +kernel
theorem dM_endHurried_44 : decode mM_endHurried.2.1 44 = .ok (.iaload, 1) := by decide +kernel
theorem dM_endHurried_45 : decode mM_endHurried.2.1 45 = .ok (.aload_n 0, 1) := by decide +kernel
theorem dM_endHurried_46 : decode mM_endHurried.2.1 46 = .ok (.getfield 55, 3) := by decide +kernel
theorem dM_endHurried_49 : decode mM_endHurried.2.1 49 = .ok (.iload_n 1, 1) := by decide +kernel
theorem dM_endHurried_50 : decode mM_endHurried.2.1 50 = .ok (.iaload, 1) := by decide +kernel
theorem dM_endHurried_51 : decode mM_endHurried.2.1 51 = .ok (.isub, 1) := by decide +kernel
theorem dM_endHurried_52 : decode mM_endHurried.2.1 52 = .ok (.iastore, 1) := by decide +kernel
theorem dM_endHurried_53 : decode mM_endHurried.2.1 53 = .ok (.iinc 1 1, 3) := by decide +kernel
theorem dM_endHurried_56 : decode mM_endHurried.2.1 56 = .ok (.goto (-40), 3) := by decide +kernel
theorem dM_endHurried_59 : decode mM_endHurried.2.1 59 = .ok (.aload_n 0, 1) := by decide +kernel
theorem dM_endHurried_60 : decode mM_endHurried.2.1 60 = .ok (.invokevirtual 158, 3) := by decide +kernel
theorem dM_endHurried_63 : decode mM_endHurried.2.1 63 = .ok (.ireturn, 1) := by decide +kernel
theorem dM_proves_0 : decode mM_proves.2.1 0 = .ok (.iload_n 1, 1) := by decide +kernel
theorem dM_proves_1 : decode mM_proves.2.1 1 = .ok (.invokestatic 283, 3) := by decide +kernel
theorem dM_proves_4 : decode mM_proves.2.1 4 = .ok (.ifCond .eq 19, 3) := by decide +kernel
theorem dM_proves_7 : decode mM_proves.2.1 7 = .ok (.iload_n 2, 1) := by decide +kernel
theorem dM_proves_8 : decode mM_proves.2.1 8 = .ok (.i2l, 1) := by decide +kernel
theorem dM_proves_9 : decode mM_proves.2.1 9 = .ok (.lconst 0, 1) := by decide +kernel
theorem dM_proves_10 : decode mM_proves.2.1 10 = .ok (.ldc2_w 278, 3) := by decide +kernel
theorem dM_proves_13 : decode mM_proves.2.1 13 = .ok (.invokestatic 68, 3) := by decide +kernel
theorem dM_proves_16 : decode mM_proves.2.1 16 = .ok (.ifCond .eq 7, 3) := by decide +kernel
theorem dM_proves_19 : decode mM_proves.2.1 19 = .ok (.iload_n 3, 1) := by decide +kernel
theorem dM_proves_20 : decode mM_proves.2.1 20 = .ok (.ifCond .ge 10, 3) := by decide +kernel
theorem dM_proves_23 : decode mM_proves.2.1 23 = .ok (.aload_n 0, 1) := by decide +kernel
theorem dM_proves_24 : decode mM_proves.2.1 24 = .ok (.ldc 78, 2) := by decide +kernel
theorem dM_proves_26 : decode mM_proves.2.1 26 = .ok (.invokevirtual 79, 3) := by decide +kernel
theorem dM_proves_29 : decode mM_proves.2.1 29 = .ok (.ireturn, 1) := by decide +kernel
theorem dM_proves_30 : decode mM_proves.2.1 30 = .ok (.aload_n 0, 1) := by decide +kernel
theorem dM_proves_31 : decode mM_proves.2.1 31 = .ok (.getfield 19, 3) := by decide +kernel
theorem dM_proves_34 : decode mM_proves.2.1 34 = .ok (.iload_n 1, 1) := by decide +kernel
theorem dM_proves_35 : decode mM_proves.2.1 35 = .ok (.iaload, 1) := by decide +kernel
theorem dM_proves_36 : decode mM_proves.2.1 36 = .ok (.ifCond .ne 10, 3) := by decide +kernel
theorem dM_proves_39 : decode mM_proves.2.1 39 = .ok (.aload_n 0, 1) := by decide +kernel
theorem dM_proves_40 : decode mM_proves.2.1 40 = .ok (.ldc 114, 2) := by decide +kernel
theorem dM_proves_42 : decode mM_proves.2.1 42 = .ok (.invokevirtual 79, 3) := by decide +kernel
theorem dM_proves_45 : decode mM_proves.2.1 45 = .ok (.ireturn, 1) := by decide +kernel
theorem dM_proves_46 : decode mM_proves.2.1 46 = .ok (.iconst 0, 1) := by decide +kernel
theorem dM_proves_47 : decode mM_proves.2.1 47 = .ok (.istore 4, 2) := by decide +kernel
theorem dM_proves_49 : decode mM_proves.2.1 49 = .ok (.iload 4, 2) := by decide +kernel
theorem dM_proves_51 : decode mM_proves.2.1 51 = .ok (.aload_n 0, 1) := by decide +kernel
theorem dM_proves_52 : decode mM_proves.2.1 52 = .ok (.getfield 9, 3) := by decide +kernel
theorem dM_proves_55 : decode mM_proves.2.1 55 = .ok (.bipush 6, 2) := by decide +kernel
theorem dM_proves_57 : decode mM_proves.2.1 57 = .ok (.iaload, 1) := by decide +kernel
theorem dM_proves_58 : decode mM_proves.2.1 58 = .ok (.if_icmp .ge 78, 3) := by decide +kernel
theorem dM_proves_61 : decode mM_proves.2.1 61 = .ok (.iload 4, 2) := by decide +kernel
theorem dM_proves_63 : decode mM_proves.2.1 63 = .ok (.aload_n 0, 1) := by decide +kernel
theorem dM_proves_64 : decode mM_proves.2.1 64 = .ok (.getfield 22, 3) := by decide +kernel
theorem dM_proves_67 : decode mM_proves.2.1 67 = .ok (.iload_n 1, 1) := by decide +kernel
theorem dM_proves_68 : decode mM_proves.2.1 68 = .ok (.iaload, 1) := by decide +kernel
theorem dM_proves_69 : decode mM_proves.2.1 69 = .ok (.if_icmp .ge 39, 3) := by decide +kernel
theorem dM_proves_72 : decode mM_proves.2.1 72 = .ok (.aload_n 0, 1) := by decide +kernel
theorem dM_proves_73 : decode mM_proves.2.1 73 = .ok (.getfield 25, 3) := by decide +kernel
theorem dM_proves_76 : decode mM_proves.2.1 76 = .ok (.bipush 24, 2) := by decide +kernel
theorem dM_proves_78 : decode mM_proves.2.1 78 = .ok (.iload_n 1, 1) := by decide +kernel
theorem dM_proves_79 : decode mM_proves.2.1 79 = .ok (.imul, 1) := by decide +kernel
theorem dM_proves_80 : decode mM_proves.2.1 80 = .ok (.iload 4, 2) := by decide +kernel
theorem dM_proves_82 : decode mM_proves.2.1 82 = .ok (.iadd, 1) := by decide +kernel
theorem dM_proves_83 : decode mM_proves.2.1 83 = .ok (.iaload, 1) := by decide +kernel
theorem dM_proves_84 : decode mM_proves.2.1 84 = .ok (.i2l, 1) := by decide +kernel
theorem dM_proves_85 : decode mM_proves.2.1 85 = .ok (.lconst 0, 1) := by decide +kernel
theorem dM_proves_86 : decode mM_proves.2.1 86 = .ok (.aload_n 0, 1) := by decide +kernel
theorem dM_proves_87 : decode mM_proves.2.1 87 = .ok (.getfield 9, 3) := by decide +kernel
theorem dM_proves_90 : decode mM_proves.2.1 90 = .ok (.sipush 1018, 3) := by decide +kernel
theorem dM_proves_93 : decode mM_proves.2.1 93 = .ok (.iconst 3, 1) := by decide +kernel
theorem dM_proves_94 : decode mM_proves.2.1 94 = .ok (.iload 4, 2) := by decide +kernel
theorem dM_proves_96 : decode mM_proves.2.1 96 = .ok (.imul, 1) := by decide +kernel
theorem dM_proves_97 : decode mM_proves.2.1 97 = .ok (.iadd, 1) := by decide +kernel
theorem dM_proves_98 : decode mM_proves.2.1 98 = .ok (.iconst 1, 1) := by decide +kernel
theorem dM_proves_99 : decode mM_proves.2.1 99 = .ok (.iadd, 1) := by decide +kernel
theorem dM_proves_100 : decode mM_proves.2.1 100 = .ok (.iaload, 1) := by decide +kernel
theorem dM_proves_101 : decode mM_proves.2.1 101 = .ok (.i2l, 1) := by decide +kernel
theorem dM_proves_102 : decode mM_proves.2.1 102 = .ok (.invokestatic 68, 3) := by decide +kernel
theorem dM_proves_105 : decode mM_proves.2.1 105 = .ok (.ifCond .ne 6, 3) := by decide +kernel
theorem dM_proves_108 : decode mM_proves.2.1 108 = .ok (.iload 4, 2) := by decide +kernel
theorem dM_proves_110 : decode mM_proves.2.1 110 = .ok (.ireturn, 1) := by decide +kernel
theorem dM_proves_111 : decode mM_proves.2.1 111 = .ok (.aload_n 0, 1) := by decide +kernel
theorem dM_proves_112 : decode mM_proves.2.1 112 = .ok (.getfield 55, 3) := by decide +kernel
theorem dM_proves_115 : decode mM_proves.2.1 115 = .ok (.iload 4, 2) := by decide +kernel
theorem dM_proves_117 : decode mM_proves.2.1 117 = .ok (.aload_n 0, 1) := by decide +kernel
theorem dM_proves_118 : decode mM_proves.2.1 118 = .ok (.getfield 25, 3) := by decide +kernel
theorem dM_proves_121 : decode mM_proves.2.1 121 = .ok (.bipush 24, 2) := by decide +kernel
theorem dM_proves_123 : decode mM_proves.2.1 123 = .ok (.iload_n 1, 1) := by decide +kernel
theorem dM_proves_124 : decode mM_proves.2.1 124 = .ok (.imul, 1) := by decide +kernel
theorem dM_proves_125 : decode mM_proves.2.1 125 = .ok (.iload 4, 2) := by decide +kernel
theorem dM_proves_127 : decode mM_proves.2.1 127 = .ok (.iadd, 1) := by decide +kernel
theorem dM_proves_128 : decode mM_proves.2.1 128 = .ok (.iaload, 1) := by decide +kernel
theorem dM_proves_129 : decode mM_proves.2.1 129 = .ok (.iastore, 1) := by decide +kernel
theorem dM_proves_130 : decode mM_proves.2.1 130 = .ok (.iinc 4 1, 3) := by decide +kernel
theorem dM_proves_133 : decode mM_proves.2.1 133 = .ok (.goto (-84), 3) := by decide +kernel
theorem dM_proves_136 : decode mM_proves.2.1 136 = .ok (.aload_n 0, 1) := by decide +kernel
theorem dM_proves_137 : decode mM_proves.2.1 137 = .ok (.getfield 22, 3) := by decide +kernel
theorem dM_proves_140 : decode mM_proves.2.1 140 = .ok (.iload_n 1, 1) := by decide +kernel
theorem dM_proves_141 : decode mM_proves.2.1 141 = .ok (.iaload, 1) := by decide +kernel
theorem dM_proves_142 : decode mM_proves.2.1 142 = .ok (.aload_n 0, 1) := by decide +kernel
theorem dM_proves_143 : decode mM_proves.2.1 143 = .ok (.getfield 9, 3) := by decide +kernel
theorem dM_proves_146 : decode mM_proves.2.1 146 = .ok (.bipush 6, 2) := by decide +kernel
theorem dM_proves_148 : decode mM_proves.2.1 148 = .ok (.iaload, 1) := by decide +kernel
theorem dM_proves_149 : decode mM_proves.2.1 149 = .ok (.if_icmp .le 11, 3) := by decide +kernel
theorem dM_proves_152 : decode mM_proves.2.1 152 = .ok (.aload_n 0, 1) := by decide +kernel
theorem dM_proves_153 : decode mM_proves.2.1 153 = .ok (.getfield 9, 3) := by decide +kernel
theorem dM_proves_156 : decode mM_proves.2.1 156 = .ok (.bipush 6, 2) := by decide +kernel
theorem dM_proves_158 : decode mM_proves.2.1 158 = .ok (.iaload, 1) := by decide +kernel
theorem dM_proves_159 : decode mM_proves.2.1 159 = .ok (.ireturn, 1) := by decide +kernel
theorem dM_proves_160 : decode mM_proves.2.1 160 = .ok (.aload_n 0, 1) := by decide +kernel
theorem dM_proves_161 : decode mM_proves.2.1 161 = .ok (.invokevirtual 275, 3) := by decide +kernel
theorem dM_proves_164 : decode mM_proves.2.1 164 = .ok (.iload_n 2, 1) := by decide +kernel
theorem dM_proves_165 : decode mM_proves.2.1 165 = .ok (.if_icmp .le 8, 3) := by decide +kernel
theorem dM_proves_168 : decode mM_proves.2.1 168 = .ok (.bipush 100, 2) := by decide +kernel
theorem dM_proves_170 : decode mM_proves.2.1 170 = .ok (.goto 17, 3) := by decide +kernel
theorem dM_proves_173 : decode mM_proves.2.1 173 = .ok (.aload_n 0, 1) := by decide +kernel
theorem dM_proves_174 : decode mM_proves.2.1 174 = .ok (.invokevirtual 272, 3) := by decide +kernel
theorem dM_proves_177 : decode mM_proves.2.1 177 = .ok (.iload_n 3, 1) := by decide +kernel
theorem dM_proves_178 : decode mM_proves.2.1 178 = .ok (.if_icmp .le 8, 3) := by decide +kernel
theorem dM_proves_181 : decode mM_proves.2.1 181 = .ok (.bipush 101, 2) := by decide +kernel
theorem dM_proves_183 : decode mM_proves.2.1 183 = .ok (.goto 4, 3) := by decide +kernel
theorem dM_proves_186 : decode mM_proves.2.1 186 = .ok (.iconst (-1), 1) := by decide +kernel
theorem dM_proves_187 : decode mM_proves.2.1 187 = .ok (.ireturn, 1) := by decide +kernel
theorem dM_isSheet_0 : decode mM_isSheet.2.1 0 = .ok (.iload_n 0, 1) := by decide +kernel
theorem dM_isSheet_1 : decode mM_isSheet.2.1 1 = .ok (.i2l, 1) := by decide +kernel
theorem dM_isSheet_2 : decode mM_isSheet.2.1 2 = .ok (.lconst 0, 1) := by decide +kernel
theorem dM_isSheet_3 : decode mM_isSheet.2.1 3 = .ok (.ldc2_w 72, 3) := by decide +kernel
theorem dM_isSheet_6 : decode mM_isSheet.2.1 6 = .ok (.invokestatic 68, 3) := by decide +kernel
theorem dM_isSheet_9 : decode mM_isSheet.2.1 9 = .ok (.ireturn, 1) := by decide +kernel
theorem dM_voice_0 : decode mM_voice.2.1 0 = .ok (.aload_n 0, 1) := by decide +kernel
theorem dM_voice_1 : decode mM_voice.2.1 1 = .ok (.iload_n 1, 1) := by decide +kernel
theorem dM_voice_2 : decode mM_voice.2.1 2 = .ok (.iconst 2, 1) := by decide +kernel
theorem dM_voice_3 : decode mM_voice.2.1 3 = .ok (.invokevirtual 84, 3) := by decide +kernel
theorem dM_voice_6 : decode mM_voice.2.1 6 = .ok (.ifCond .eq 15, 3) := by decide +kernel
theorem dM_voice_9 : decode mM_voice.2.1 9 = .ok (.iload_n 2, 1) := by decide +kernel
theorem dM_voice_10 : decode mM_voice.2.1 10 = .ok (.i2l, 1) := by decide +kernel
theorem dM_voice_11 : decode mM_voice.2.1 11 = .ok (.lconst 0, 1) := by decide +kernel
theorem dM_voice_12 : decode mM_voice.2.1 12 = .ok (.ldc2_w 72, 3) := by decide +kernel
theorem dM_voice_15 : decode mM_voice.2.1 15 = .ok (.invokestatic 68, 3) := by decide +kernel
theorem dM_voice_18 : decode mM_voice.2.1 18 = .ok (.ifCond .ne 10, 3) := by decide +kernel
theorem dM_voice_21 : decode mM_voice.2.1 21 = .ok (.aload_n 0, 1) := by decide +kernel
theorem dM_voice_22 : decode mM_voice.2.1 22 = .ok (.ldc 78, 2) := by decide +kernel
theorem dM_voice_24 : decode mM_voice.2.1 24 = .ok (.invokevirtual 79, 3) := by decide +kernel
theorem dM_voice_27 : decode mM_voice.2.1 27 = .ok (.ireturn, 1) := by decide +kernel
theorem dM_voice_28 : decode mM_voice.2.1 28 = .ok (.aload_n 0, 1) := by decide +kernel
theorem dM_voice_29 : decode mM_voice.2.1 29 = .ok (.iconst 0, 1) := by decide +kernel
theorem dM_voice_30 : decode mM_voice.2.1 30 = .ok (.putfield 286, 3) := by decide +kernel
theorem dM_voice_33 : decode mM_voice.2.1 33 = .ok (.aload_n 0, 1) := by decide +kernel
theorem dM_voice_34 : decode mM_voice.2.1 34 = .ok (.iload_n 1, 1) := by decide +kernel
theorem dM_voice_35 : decode mM_voice.2.1 35 = .ok (.putfield 289, 3) := by decide +kernel
theorem dM_voice_38 : decode mM_voice.2.1 38 = .ok (.aload_n 0, 1) := by decide +kernel
theorem dM_voice_39 : decode mM_voice.2.1 39 = .ok (.iload_n 2, 1) := by decide +kernel
theorem dM_voice_40 : decode mM_voice.2.1 40 = .ok (.iload_n 3, 1) := by decide +kernel
theorem dM_voice_41 : decode mM_voice.2.1 41 = .ok (.invokevirtual 304, 3) := by decide +kernel
theorem dM_voice_44 : decode mM_voice.2.1 44 = .ok (.ireturn, 1) := by decide +kernel
theorem dM_voiced_0 : decode mM_voiced.2.1 0 = .ok (.aload_n 0, 1) := by decide +kernel
theorem dM_voiced_1 : decode mM_voiced.2.1 1 = .ok (.aload_n 0, 1) := by decide +kernel
theorem dM_voiced_2 : decode mM_voiced.2.1 2 = .ok (.aload_n 0, 1) := by decide +kernel
theorem dM_voiced_3 : decode mM_voiced.2.1 3 = .ok (.getfield 289, 3) := by decide +kernel
theorem dM_voiced_6 : decode mM_voiced.2.1 6 = .ok (.invokevirtual 88, 3) := by decide +kernel
theorem dM_voiced_9 : decode mM_voiced.2.1 9 = .ok (.iload_n 1, 1) := by decide +kernel
theorem dM_voiced_10 : decode mM_voiced.2.1 10 = .ok (.iload_n 2, 1) := by decide +kernel
theorem dM_voiced_11 : decode mM_voiced.2.1 11 = .ok (.invokevirtual 292, 3) := by decide +kernel
theorem dM_voiced_14 : decode mM_voiced.2.1 14 = .ok (.ireturn, 1) := by decide +kernel
theorem dM_bodyFrom_0 : decode mM_bodyFrom.2.1 0 = .ok (.iload_n 1, 1) := by decide +kernel
theorem dM_bodyFrom_1 : decode mM_bodyFrom.2.1 1 = .ok (.istore 4, 2) := by decide +kernel
theorem dM_bodyFrom_3 : decode mM_bodyFrom.2.1 3 = .ok (.iload 4, 2) := by decide +kernel
theorem dM_bodyFrom_5 : decode mM_bodyFrom.2.1 5 = .ok (.iload_n 2, 1) := by decide +kernel
theorem dM_bodyFrom_6 : decode mM_bodyFrom.2.1 6 = .ok (.invokestatic 295, 3) := by decide +kernel
theorem dM_bodyFrom_9 : decode mM_bodyFrom.2.1 9 = .ok (.ifCond .ne 13, 3) := by decide +kernel
theorem dM_bodyFrom_12 : decode mM_bodyFrom.2.1 12 = .ok (.iload 4, 2) := by decide +kernel
theorem dM_bodyFrom_14 : decode mM_bodyFrom.2.1 14 = .ok (.invokestatic 91, 3) := by decide +kernel
theorem dM_bodyFrom_17 : decode mM_bodyFrom.2.1 17 = .ok (.istore 4, 2) := by decide +kernel
theorem dM_bodyFrom_19 : decode mM_bodyFrom.2.1 19 = .ok (.goto (-16), 3) := by decide +kernel
theorem dM_bodyFrom_22 : decode mM_bodyFrom.2.1 22 = .ok (.aload_n 0, 1) := by decide +kernel
theorem dM_bodyFrom_23 : decode mM_bodyFrom.2.1 23 = .ok (.iload 4, 2) := by decide +kernel
theorem dM_bodyFrom_25 : decode mM_bodyFrom.2.1 25 = .ok (.iload_n 2, 1) := by decide +kernel
theorem dM_bodyFrom_26 : decode mM_bodyFrom.2.1 26 = .ok (.iload_n 3, 1) := by decide +kernel
theorem dM_bodyFrom_27 : decode mM_bodyFrom.2.1 27 = .ok (.invokevirtual 298, 3) := by decide +kernel
theorem dM_bodyFrom_30 : decode mM_bodyFrom.2.1 30 = .ok (.ireturn, 1) := by decide +kernel
theorem dM_hasOwn_0 : decode mM_hasOwn.2.1 0 = .ok (.iload_n 0, 1) := by decide +kernel
theorem dM_hasOwn_1 : decode mM_hasOwn.2.1 1 = .ok (.tableswitch 89 0 4 #[35, 37, 48, 63, 78], 35) := by decide +kernel
theorem dM_hasOwn_36 : decode mM_hasOwn.2.1 36 = .ok (.iconst 1, 1) := by decide +kernel
theorem dM_hasOwn_37 : decode mM_hasOwn.2.1 37 = .ok (.ireturn, 1) := by decide +kernel
theorem dM_hasOwn_38 : decode mM_hasOwn.2.1 38 = .ok (.iload_n 1, 1) := by decide +kernel
theorem dM_hasOwn_39 : decode mM_hasOwn.2.1 39 = .ok (.iconst 1, 1) := by decide +kernel
theorem dM_hasOwn_40 : decode mM_hasOwn.2.1 40 = .ok (.if_icmp .ne 7, 3) := by decide +kernel
theorem dM_hasOwn_43 : decode mM_hasOwn.2.1 43 = .ok (.iconst 1, 1) := by decide +kernel
theorem dM_hasOwn_44 : decode mM_hasOwn.2.1 44 = .ok (.goto 4, 3) := by decide +kernel
theorem dM_hasOwn_47 : decode mM_hasOwn.2.1 47 = .ok (.iconst 0, 1) := by decide +kernel
theorem dM_hasOwn_48 : decode mM_hasOwn.2.1 48 = .ok (.ireturn, 1) := by decide +kernel
theorem dM_hasOwn_49 : decode mM_hasOwn.2.1 49 = .ok (.iload_n 1, 1) := by decide +kernel
theorem dM_hasOwn_50 : decode mM_hasOwn.2.1 50 = .ok (.ifCond .eq 8, 3) := by decide +kernel
theorem dM_hasOwn_53 : decode mM_hasOwn.2.1 53 = .ok (.iload_n 1, 1) := by decide +kernel
theorem dM_hasOwn_54 : decode mM_hasOwn.2.1 54 = .ok (.iconst 3, 1) := by decide +kernel
theorem dM_hasOwn_55 : decode mM_hasOwn.2.1 55 = .ok (.if_icmp .ne 7, 3) := by decide +kernel
theorem dM_hasOwn_58 : decode mM_hasOwn.2.1 58 = .ok (.iconst 1, 1) := by decide +kernel
theorem dM_hasOwn_59 : decode mM_hasOwn.2.1 59 = .ok (.goto 4, 3) := by decide +kernel
theorem dM_hasOwn_62 : decode mM_hasOwn.2.1 62 = .ok (.iconst 0, 1) := by decide +kernel
theorem dM_hasOwn_63 : decode mM_hasOwn.2.1 63 = .ok (.ireturn, 1) := by decide +kernel
theorem dM_hasOwn_64 : decode mM_hasOwn.2.1 64 = .ok (.iload_n 1, 1) := by decide +kernel
theorem dM_hasOwn_65 : decode mM_hasOwn.2.1 65 = .ok (.iconst 2, 1) := by decide +kernel
theorem dM_hasOwn_66 : decode mM_hasOwn.2.1 66 = .ok (.if_icmp .eq 7, 3) := by decide +kernel
theorem dM_hasOwn_69 : decode mM_hasOwn.2.1 69 = .ok (.iload_n 1, 1) := by decide +kernel
theorem dM_hasOwn_70 : decode mM_hasOwn.2.1 70 = .ok (.ifCond .ne 7, 3) := by decide +kernel
theorem dM_hasOwn_73 : decode mM_hasOwn.2.1 73 = .ok (.iconst 1, 1) := by decide +kernel
theorem dM_hasOwn_74 : decode mM_hasOwn.2.1 74 = .ok (.goto 4, 3) := by decide +kernel
theorem dM_hasOwn_77 : decode mM_hasOwn.2.1 77 = .ok (.iconst 0, 1) := by decide +kernel
theorem dM_hasOwn_78 : decode mM_hasOwn.2.1 78 = .ok (.ireturn, 1) := by decide +kernel
theorem dM_hasOwn_79 : decode mM_hasOwn.2.1 79 = .ok (.iload_n 1, 1) := by decide +kernel
theorem dM_hasOwn_80 : decode mM_hasOwn.2.1 80 = .ok (.iconst 3, 1) := by decide +kernel
theorem dM_hasOwn_81 : decode mM_hasOwn.2.1 81 = .ok (.if_icmp .ne 7, 3) := by decide +kernel
theorem dM_hasOwn_84 : decode mM_hasOwn.2.1 84 = .ok (.iconst 1, 1) := by decide +kernel
theorem dM_hasOwn_85 : decode mM_hasOwn.2.1 85 = .ok (.goto 4, 3) := by decide +kernel
theorem dM_hasOwn_88 : decode mM_hasOwn.2.1 88 = .ok (.iconst 0, 1) := by decide +kernel
theorem dM_hasOwn_89 : decode mM_hasOwn.2.1 89 = .ok (.ireturn, 1) := by decide +kernel
theorem dM_hasOwn_90 : decode mM_hasOwn.2.1 90 = .ok (.iload_n 1, 1) := by decide +kernel
theorem dM_hasOwn_91 : decode mM_hasOwn.2.1 91 = .ok (.iconst 2, 1) := by decide +kernel
theorem dM_hasOwn_92 : decode mM_hasOwn.2.1 92 = .ok (.if_icmp .eq 8, 3) := by decide +kernel
theorem dM_hasOwn_95 : decode mM_hasOwn.2.1 95 = .ok (.iload_n 1, 1) := by decide +kernel
theorem dM_hasOwn_96 : decode mM_hasOwn.2.1 96 = .ok (.iconst 1, 1) := by decide +kernel
theorem dM_hasOwn_97 : decode mM_hasOwn.2.1 97 = .ok (.if_icmp .ne 7, 3) := by decide +kernel
theorem dM_hasOwn_100 : decode mM_hasOwn.2.1 100 = .ok (.iconst 1, 1) := by decide +kernel
theorem dM_hasOwn_101 : decode mM_hasOwn.2.1 101 = .ok (.goto 4, 3) := by decide +kernel
theorem dM_hasOwn_104 : decode mM_hasOwn.2.1 104 = .ok (.iconst 0, 1) := by decide +kernel
theorem dM_hasOwn_105 : decode mM_hasOwn.2.1 105 = .ok (.ireturn, 1) := by decide +kernel
theorem dM_body_0 : decode mM_body.2.1 0 = .ok (.aload_n 0, 1) := by decide +kernel
theorem dM_body_1 : decode mM_body.2.1 1 = .ok (.getfield 9, 3) := by decide +kernel
theorem dM_body_4 : decode mM_body.2.1 4 = .ok (.bipush 10, 2) := by decide +kernel
theorem dM_body_6 : decode mM_body.2.1 6 = .ok (.iconst 3, 1) := by decide +kernel
theorem dM_body_7 : decode mM_body.2.1 7 = .ok (.aload_n 0, 1) := by decide +kernel
theorem dM_body_8 : decode mM_body.2.1 8 = .ok (.getfield 289, 3) := by decide +kernel
theorem dM_body_11 : decode mM_body.2.1 11 = .ok (.imul, 1) := by decide +kernel
theorem dM_body_12 : decode mM_body.2.1 12 = .ok (.iadd, 1) := by decide +kernel
theorem dM_body_13 : decode mM_body.2.1 13 = .ok (.iconst 2, 1) := by decide +kernel
theorem dM_body_14 : decode mM_body.2.1 14 = .ok (.iadd, 1) := by decide +kernel
theorem dM_body_15 : decode mM_body.2.1 15 = .ok (.iaload, 1) := by decide +kernel
theorem dM_body_16 : decode mM_body.2.1 16 = .ok (.istore 4, 2) := by decide +kernel
theorem dM_body_18 : decode mM_body.2.1 18 = .ok (.iconst 4, 1) := by decide +kernel
theorem dM_body_19 : decode mM_body.2.1 19 = .ok (.iload_n 1, 1) := by decide +kernel
theorem dM_body_20 : decode mM_body.2.1 20 = .ok (.imul, 1) := by decide +kernel
theorem dM_body_21 : decode mM_body.2.1 21 = .ok (.iload_n 2, 1) := by decide +kernel
theorem dM_body_22 : decode mM_body.2.1 22 = .ok (.iadd, 1) := by decide +kernel
theorem dM_body_23 : decode mM_body.2.1 23 = .ok (.tableswitch 305 0 22 #[105, 116, 131, 144, 305, 168, 305, 305, 193, 305, 305, 212, 244, 305, 228, 305, 305, 305, 305, 261, 305, 305, 286], 105) := by decide +kernel
theorem dM_body_128 : decode mM_body.2.1 128 = .ok (.aload_n 0, 1) := by decide +kernel
theorem dM_body_129 : decode mM_body.2.1 129 = .ok (.bipush 10, 2) := by decide +kernel
theorem dM_body_131 : decode mM_body.2.1 131 = .ok (.invokevirtual 301, 3) := by decide +kernel
theorem dM_body_134 : decode mM_body.2.1 134 = .ok (.iload_n 3, 1) := by decide +kernel
theorem dM_body_135 : decode mM_body.2.1 135 = .ok (.iload 4, 2) := by decide +kernel
theorem dM_body_137 : decode mM_body.2.1 137 = .ok (.iadd, 1) := by decide +kernel
theorem dM_body_138 : decode mM_body.2.1 138 = .ok (.ireturn, 1) := by decide +kernel
theorem dM_body_139 : decode mM_body.2.1 139 = .ok (.aload_n 0, 1) := by decide +kernel
theorem dM_body_140 : decode mM_body.2.1 140 = .ok (.bipush 11, 2) := by decide +kernel
theorem dM_body_142 : decode mM_body.2.1 142 = .ok (.invokevirtual 301, 3) := by decide +kernel
theorem dM_body_145 : decode mM_body.2.1 145 = .ok (.aload_n 0, 1) := by decide +kernel
theorem dM_body_146 : decode mM_body.2.1 146 = .ok (.iconst 0, 1) := by decide +kernel
theorem dM_body_147 : decode mM_body.2.1 147 = .ok (.iload_n 3, 1) := by decide +kernel
theorem dM_body_148 : decode mM_body.2.1 148 = .ok (.invokevirtual 304, 3) := by decide +kernel
theorem dM_body_151 : decode mM_body.2.1 151 = .ok (.iconst 2, 1) := by decide +kernel
theorem dM_body_152 : decode mM_body.2.1 152 = .ok (.imul, 1) := by decide +kernel
theorem dM_body_153 : decode mM_body.2.1 153 = .ok (.ireturn, 1) := by decide +kernel
theorem dM_body_154 : decode mM_body.2.1 154 = .ok (.aload_n 0, 1) := by decide +kernel
theorem dM_body_155 : decode mM_body.2.1 155 = .ok (.bipush 12, 2) := by decide +kernel
theorem dM_body_157 : decode mM_body.2.1 157 = .ok (.invokevirtual 301, 3) := by decide +kernel
theorem dM_body_160 : decode mM_body.2.1 160 = .ok (.iload_n 3, 1) := by decide +kernel
theorem dM_body_161 : decode mM_body.2.1 161 = .ok (.aload_n 0, 1) := by decide +kernel
theorem dM_body_162 : decode mM_body.2.1 162 = .ok (.getfield 289, 3) := by decide +kernel
theorem dM_body_165 : decode mM_body.2.1 165 = .ok (.isub, 1) := by decide +kernel
theorem dM_body_166 : decode mM_body.2.1 166 = .ok (.ireturn, 1) := by decide +kernel
theorem dM_body_167 : decode mM_body.2.1 167 = .ok (.aload_n 0, 1) := by decide +kernel
theorem dM_body_168 : decode mM_body.2.1 168 = .ok (.bipush 13, 2) := by decide +kernel
theorem dM_body_170 : decode mM_body.2.1 170 = .ok (.invokevirtual 301, 3) := by decide +kernel
theorem dM_body_173 : decode mM_body.2.1 173 = .ok (.aload_n 0, 1) := by decide +kernel
theorem dM_body_174 : decode mM_body.2.1 174 = .ok (.iconst 1, 1) := by decide +kernel
theorem dM_body_175 : decode mM_body.2.1 175 = .ok (.iload_n 3, 1) := by decide +kernel
theorem dM_body_176 : decode mM_body.2.1 176 = .ok (.invokevirtual 304, 3) := by decide +kernel
theorem dM_body_179 : decode mM_body.2.1 179 = .ok (.istore 5, 2) := by decide +kernel
theorem dM_body_181 : decode mM_body.2.1 181 = .ok (.iload 5, 2) := by decide +kernel
theorem dM_body_183 : decode mM_body.2.1 183 = .ok (.aload_n 0, 1) := by decide +kernel
theorem dM_body_184 : decode mM_body.2.1 184 = .ok (.iconst 2, 1) := by decide +kernel
theorem dM_body_185 : decode mM_body.2.1 185 = .ok (.iload_n 3, 1) := by decide +kernel
theorem dM_body_186 : decode mM_body.2.1 186 = .ok (.invokevirtual 304, 3) := by decide +kernel
theorem dM_body_189 : decode mM_body.2.1 189 = .ok (.ixor, 1) := by decide +kernel
theorem dM_body_190 : decode mM_body.2.1 190 = .ok (.ireturn, 1) := by decide +kernel
theorem dM_body_191 : decode mM_body.2.1 191 = .ok (.aload_n 0, 1) := by decide +kernel
theorem dM_body_192 : decode mM_body.2.1 192 = .ok (.bipush 20, 2) := by decide +kernel
theorem dM_body_194 : decode mM_body.2.1 194 = .ok (.invokevirtual 301, 3) := by decide +kernel
theorem dM_body_197 : decode mM_body.2.1 197 = .ok (.aload_n 0, 1) := by decide +kernel
theorem dM_body_198 : decode mM_body.2.1 198 = .ok (.iconst 0, 1) := by decide +kernel
theorem dM_body_199 : decode mM_body.2.1 199 = .ok (.iconst 1, 1) := by decide +kernel
theorem dM_body_200 : decode mM_body.2.1 200 = .ok (.iload_n 3, 1) := by decide +kernel
theorem dM_body_201 : decode mM_body.2.1 201 = .ok (.invokevirtual 292, 3) := by decide +kernel
theorem dM_body_204 : decode mM_body.2.1 204 = .ok (.istore 5, 2) := by decide +kernel
theorem dM_body_206 : decode mM_body.2.1 206 = .ok (.iload 5, 2) := by decide +kernel
theorem dM_body_208 : decode mM_body.2.1 208 = .ok (.aload_n 0, 1) := by decide +kernel
theorem dM_body_209 : decode mM_body.2.1 209 = .ok (.iconst 2, 1) := by decide +kernel
theorem dM_body_210 : decode mM_body.2.1 210 = .ok (.iload_n 3, 1) := by decide +kernel
theorem dM_body_211 : decode mM_body.2.1 211 = .ok (.invokevirtual 304, 3) := by decide +kernel
theorem dM_body_214 : decode mM_body.2.1 214 = .ok (.isub, 1) := by decide +kernel
theorem dM_body_215 : decode mM_body.2.1 215 = .ok (.ireturn, 1) := by decide +kernel
theorem dM_body_216 : decode mM_body.2.1 216 = .ok (.aload_n 0, 1) := by decide +kernel
theorem dM_body_217 : decode mM_body.2.1 217 = .ok (.bipush 30, 2) := by decide +kernel
theorem dM_body_219 : decode mM_body.2.1 219 = .ok (.invokevirtual 301, 3) := by decide +kernel
theorem dM_body_222 : decode mM_body.2.1 222 = .ok (.aload_n 0, 1) := by decide +kernel
theorem dM_body_223 : decode mM_body.2.1 223 = .ok (.iconst 0, 1) := by decide +kernel
theorem dM_body_224 : decode mM_body.2.1 224 = .ok (.iconst 0, 1) := by decide +kernel
theorem dM_body_225 : decode mM_body.2.1 225 = .ok (.iload_n 3, 1) := by decide +kernel
theorem dM_body_226 : decode mM_body.2.1 226 = .ok (.invokevirtual 292, 3) := by decide +kernel
theorem dM_body_229 : decode mM_body.2.1 229 = .ok (.aload_n 0, 1) := by decide +kernel
theorem dM_body_230 : decode mM_body.2.1 230 = .ok (.getfield 289, 3) := by decide +kernel
theorem dM_body_233 : decode mM_body.2.1 233 = .ok (.iadd, 1) := by decide +kernel
theorem dM_body_234 : decode mM_body.2.1 234 = .ok (.ireturn, 1) := by decide +kernel
theorem dM_body_235 : decode mM_body.2.1 235 = .ok (.aload_n 0, 1) := by decide +kernel
theorem dM_body_236 : decode mM_body.2.1 236 = .ok (.bipush 31, 2) := by decide +kernel
theorem dM_body_238 : decode mM_body.2.1 238 = .ok (.invokevirtual 301, 3) := by decide +kernel
theorem dM_body_241 : decode mM_body.2.1 241 = .ok (.aload_n 0, 1) := by decide +kernel
theorem dM_body_242 : decode mM_body.2.1 242 = .ok (.iconst 0, 1) := by decide +kernel
theorem dM_body_243 : decode mM_body.2.1 243 = .ok (.iconst 3, 1) := by decide +kernel
theorem dM_body_244 : decode mM_body.2.1 244 = .ok (.iload_n 3, 1) := by decide +kernel
theorem dM_body_245 : decode mM_body.2.1 245 = .ok (.iconst 1, 1) := by decide +kernel
theorem dM_body_246 : decode mM_body.2.1 246 = .ok (.iadd, 1) := by decide +kernel
theorem dM_body_247 : decode mM_body.2.1 247 = .ok (.invokevirtual 292, 3) := by decide +kernel
theorem dM_body_250 : decode mM_body.2.1 250 = .ok (.ireturn, 1) := by decide +kernel
theorem dM_body_251 : decode mM_body.2.1 251 = .ok (.aload_n 0, 1) := by decide +kernel
theorem dM_body_252 : decode mM_body.2.1 252 = .ok (.bipush 40, 2) := by decide +kernel
theorem dM_body_254 : decode mM_body.2.1 254 = .ok (.invokevirtual 301, 3) := by decide +kernel
theorem dM_body_257 : decode mM_body.2.1 257 = .ok (.aload_n 0, 1) := by decide +kernel
theorem dM_body_258 : decode mM_body.2.1 258 = .ok (.iconst 2, 1) := by decide +kernel
theorem dM_body_259 : decode mM_body.2.1 259 = .ok (.iconst 2, 1) := by decide +kernel
theorem dM_body_260 : decode mM_body.2.1 260 = .ok (.iload_n 3, 1) := by decide +kernel
theorem dM_body_261 : decode mM_body.2.1 261 = .ok (.invokevirtual 292, 3) := by decide +kernel
theorem dM_body_264 : decode mM_body.2.1 264 = .ok (.iconst 3, 1) := by decide +kernel
theorem dM_body_265 : decode mM_body.2.1 265 = .ok (.imul, 1) := by decide +kernel
theorem dM_body_266 : decode mM_body.2.1 266 = .ok (.ireturn, 1) := by decide +kernel
theorem dM_body_267 : decode mM_body.2.1 267 = .ok (.aload_n 0, 1) := by decide +kernel
theorem dM_body_268 : decode mM_body.2.1 268 = .ok (.bipush 41, 2) := by decide +kernel
theorem dM_body_270 : decode mM_body.2.1 270 = .ok (.invokevirtual 301, 3) := by decide +kernel
theorem dM_body_273 : decode mM_body.2.1 273 = .ok (.aload_n 0, 1) := by decide +kernel
theorem dM_body_274 : decode mM_body.2.1 274 = .ok (.iconst 2, 1) := by decide +kernel
theorem dM_body_275 : decode mM_body.2.1 275 = .ok (.iconst 0, 1) := by decide +kernel
theorem dM_body_276 : decode mM_body.2.1 276 = .ok (.iload_n 3, 1) := by decide +kernel
theorem dM_body_277 : decode mM_body.2.1 277 = .ok (.iload 4, 2) := by decide +kernel
theorem dM_body_279 : decode mM_body.2.1 279 = .ok (.isub, 1) := by decide +kernel
theorem dM_body_280 : decode mM_body.2.1 280 = .ok (.invokevirtual 292, 3) := by decide +kernel
theorem dM_body_283 : decode mM_body.2.1 283 = .ok (.ireturn, 1) := by decide +kernel
theorem dM_body_284 : decode mM_body.2.1 284 = .ok (.aload_n 0, 1) := by decide +kernel
theorem dM_body_285 : decode mM_body.2.1 285 = .ok (.bipush 50, 2) := by decide +kernel
theorem dM_body_287 : decode mM_body.2.1 287 = .ok (.invokevirtual 301, 3) := by decide +kernel
theorem dM_body_290 : decode mM_body.2.1 290 = .ok (.aload_n 0, 1) := by decide +kernel
theorem dM_body_291 : decode mM_body.2.1 291 = .ok (.iconst 2, 1) := by decide +kernel
theorem dM_body_292 : decode mM_body.2.1 292 = .ok (.iload_n 3, 1) := by decide +kernel
theorem dM_body_293 : decode mM_body.2.1 293 = .ok (.invokevirtual 304, 3) := by decide +kernel
theorem dM_body_296 : decode mM_body.2.1 296 = .ok (.istore 5, 2) := by decide +kernel
theorem dM_body_298 : decode mM_body.2.1 298 = .ok (.iload 5, 2) := by decide +kernel
theorem dM_body_300 : decode mM_body.2.1 300 = .ok (.aload_n 0, 1) := by decide +kernel
theorem dM_body_301 : decode mM_body.2.1 301 = .ok (.iconst 0, 1) := by decide +kernel
theorem dM_body_302 : decode mM_body.2.1 302 = .ok (.iconst 3, 1) := by decide +kernel
theorem dM_body_303 : decode mM_body.2.1 303 = .ok (.iload_n 3, 1) := by decide +kernel
theorem dM_body_304 : decode mM_body.2.1 304 = .ok (.invokevirtual 292, 3) := by decide +kernel
theorem dM_body_307 : decode mM_body.2.1 307 = .ok (.isub, 1) := by decide +kernel
theorem dM_body_308 : decode mM_body.2.1 308 = .ok (.ireturn, 1) := by decide +kernel
theorem dM_body_309 : decode mM_body.2.1 309 = .ok (.aload_n 0, 1) := by decide +kernel
theorem dM_body_310 : decode mM_body.2.1 310 = .ok (.bipush 60, 2) := by decide +kernel
theorem dM_body_312 : decode mM_body.2.1 312 = .ok (.invokevirtual 301, 3) := by decide +kernel
theorem dM_body_315 : decode mM_body.2.1 315 = .ok (.aload_n 0, 1) := by decide +kernel
theorem dM_body_316 : decode mM_body.2.1 316 = .ok (.iconst 2, 1) := by decide +kernel
theorem dM_body_317 : decode mM_body.2.1 317 = .ok (.iconst 2, 1) := by decide +kernel
theorem dM_body_318 : decode mM_body.2.1 318 = .ok (.iload_n 3, 1) := by decide +kernel
theorem dM_body_319 : decode mM_body.2.1 319 = .ok (.aload_n 0, 1) := by decide +kernel
theorem dM_body_320 : decode mM_body.2.1 320 = .ok (.getfield 289, 3) := by decide +kernel
theorem dM_body_323 : decode mM_body.2.1 323 = .ok (.iadd, 1) := by decide +kernel
theorem dM_body_324 : decode mM_body.2.1 324 = .ok (.invokevirtual 292, 3) := by decide +kernel
theorem dM_body_327 : decode mM_body.2.1 327 = .ok (.ireturn, 1) := by decide +kernel
theorem dM_body_328 : decode mM_body.2.1 328 = .ok (.aload_n 0, 1) := by decide +kernel
theorem dM_body_329 : decode mM_body.2.1 329 = .ok (.bipush 61, 2) := by decide +kernel
theorem dM_body_331 : decode mM_body.2.1 331 = .ok (.invokevirtual 301, 3) := by decide +kernel
theorem dM_body_334 : decode mM_body.2.1 334 = .ok (.aload_n 0, 1) := by decide +kernel
theorem dM_body_335 : decode mM_body.2.1 335 = .ok (.iconst 2, 1) := by decide +kernel
theorem dM_body_336 : decode mM_body.2.1 336 = .ok (.iconst 1, 1) := by decide +kernel
theorem dM_body_337 : decode mM_body.2.1 337 = .ok (.iload_n 3, 1) := by decide +kernel
theorem dM_body_338 : decode mM_body.2.1 338 = .ok (.invokevirtual 292, 3) := by decide +kernel
theorem dM_body_341 : decode mM_body.2.1 341 = .ok (.istore 5, 2) := by decide +kernel
theorem dM_body_343 : decode mM_body.2.1 343 = .ok (.iload 5, 2) := by decide +kernel
theorem dM_body_345 : decode mM_body.2.1 345 = .ok (.aload_n 0, 1) := by decide +kernel
theorem dM_body_346 : decode mM_body.2.1 346 = .ok (.iconst 0, 1) := by decide +kernel
theorem dM_body_347 : decode mM_body.2.1 347 = .ok (.iload_n 3, 1) := by decide +kernel
theorem dM_body_348 : decode mM_body.2.1 348 = .ok (.invokevirtual 304, 3) := by decide +kernel
theorem dM_body_351 : decode mM_body.2.1 351 = .ok (.ixor, 1) := by decide +kernel
theorem dM_body_352 : decode mM_body.2.1 352 = .ok (.ireturn, 1) := by decide +kernel
theorem dM_began_0 : decode mM_began.2.1 0 = .ok (.aload_n 0, 1) := by decide +kernel
theorem dM_began_1 : decode mM_began.2.1 1 = .ok (.getfield 286, 3) := by decide +kernel
theorem dM_began_4 : decode mM_began.2.1 4 = .ok (.bipush 40, 2) := by decide +kernel
theorem dM_began_6 : decode mM_began.2.1 6 = .ok (.if_icmp .ge 23, 3) := by decide +kernel
theorem dM_began_9 : decode mM_began.2.1 9 = .ok (.aload_n 0, 1) := by decide +kernel
theorem dM_began_10 : decode mM_began.2.1 10 = .ok (.getfield 28, 3) := by decide +kernel
theorem dM_began_13 : decode mM_began.2.1 13 = .ok (.aload_n 0, 1) := by decide +kernel
theorem dM_began_14 : decode mM_began.2.1 14 = .ok (.getfield 286, 3) := by decide +kernel
theorem dM_began_17 : decode mM_began.2.1 17 = .ok (.iload_n 1, 1) := by decide +kernel
theorem dM_began_18 : decode mM_began.2.1 18 = .ok (.iastore, 1) := by decide +kernel
theorem dM_began_19 : decode mM_began.2.1 19 = .ok (.aload_n 0, 1) := by decide +kernel
theorem dM_began_20 : decode mM_began.2.1 20 = .ok (.dup, 1) := by decide +kernel
theorem dM_began_21 : decode mM_began.2.1 21 = .ok (.getfield 286, 3) := by decide +kernel
theorem dM_began_24 : decode mM_began.2.1 24 = .ok (.iconst 1, 1) := by decide +kernel
theorem dM_began_25 : decode mM_began.2.1 25 = .ok (.iadd, 1) := by decide +kernel
theorem dM_began_26 : decode mM_began.2.1 26 = .ok (.putfield 286, 3) := by decide +kernel
theorem dM_began_29 : decode mM_began.2.1 29 = .ok (.return_, 1) := by decide +kernel
theorem dM_trace_0 : decode mM_trace.2.1 0 = .ok (.iload_n 1, 1) := by decide +kernel
theorem dM_trace_1 : decode mM_trace.2.1 1 = .ok (.i2l, 1) := by decide +kernel
theorem dM_trace_2 : decode mM_trace.2.1 2 = .ok (.lconst 0, 1) := by decide +kernel
theorem dM_trace_3 : decode mM_trace.2.1 3 = .ok (.aload_n 0, 1) := by decide +kernel
theorem dM_trace_4 : decode mM_trace.2.1 4 = .ok (.getfield 286, 3) := by decide +kernel
theorem dM_trace_7 : decode mM_trace.2.1 7 = .ok (.iconst 1, 1) := by decide +kernel
theorem dM_trace_8 : decode mM_trace.2.1 8 = .ok (.isub, 1) := by decide +kernel
theorem dM_trace_9 : decode mM_trace.2.1 9 = .ok (.i2l, 1) := by decide +kernel
theorem dM_trace_10 : decode mM_trace.2.1 10 = .ok (.invokestatic 68, 3) := by decide +kernel
theorem dM_trace_13 : decode mM_trace.2.1 13 = .ok (.ifCond .eq 12, 3) := by decide +kernel
theorem dM_trace_16 : decode mM_trace.2.1 16 = .ok (.aload_n 0, 1) := by decide +kernel
theorem dM_trace_17 : decode mM_trace.2.1 17 = .ok (.getfield 28, 3) := by decide +kernel
theorem dM_trace_20 : decode mM_trace.2.1 20 = .ok (.iload_n 1, 1) := by decide +kernel
theorem dM_trace_21 : decode mM_trace.2.1 21 = .ok (.iaload, 1) := by decide +kernel
theorem dM_trace_22 : decode mM_trace.2.1 22 = .ok (.goto 9, 3) := by decide +kernel
theorem dM_trace_25 : decode mM_trace.2.1 25 = .ok (.aload_n 0, 1) := by decide +kernel
theorem dM_trace_26 : decode mM_trace.2.1 26 = .ok (.ldc 114, 2) := by decide +kernel
theorem dM_trace_28 : decode mM_trace.2.1 28 = .ok (.invokevirtual 79, 3) := by decide +kernel
theorem dM_trace_31 : decode mM_trace.2.1 31 = .ok (.ireturn, 1) := by decide +kernel
theorem dM_sheet_0 : decode mM_sheet.2.1 0 = .ok (.iload_n 1, 1) := by decide +kernel
theorem dM_sheet_1 : decode mM_sheet.2.1 1 = .ok (.invokestatic 283, 3) := by decide +kernel
theorem dM_sheet_4 : decode mM_sheet.2.1 4 = .ok (.ifCond .eq 14, 3) := by decide +kernel
theorem dM_sheet_7 : decode mM_sheet.2.1 7 = .ok (.iload_n 2, 1) := by decide +kernel
theorem dM_sheet_8 : decode mM_sheet.2.1 8 = .ok (.ifCond .eq 17, 3) := by decide +kernel
theorem dM_sheet_11 : decode mM_sheet.2.1 11 = .ok (.iload_n 2, 1) := by decide +kernel
theorem dM_sheet_12 : decode mM_sheet.2.1 12 = .ok (.invokestatic 307, 3) := by decide +kernel
theorem dM_sheet_15 : decode mM_sheet.2.1 15 = .ok (.ifCond .ne 10, 3) := by decide +kernel
theorem dM_sheet_18 : decode mM_sheet.2.1 18 = .ok (.aload_n 0, 1) := by decide +kernel
theorem dM_sheet_19 : decode mM_sheet.2.1 19 = .ok (.ldc 78, 2) := by decide +kernel
theorem dM_sheet_21 : decode mM_sheet.2.1 21 = .ok (.invokevirtual 79, 3) := by decide +kernel
theorem dM_sheet_24 : decode mM_sheet.2.1 24 = .ok (.ireturn, 1) := by decide +kernel
theorem dM_sheet_25 : decode mM_sheet.2.1 25 = .ok (.iload_n 2, 1) := by decide +kernel
theorem dM_sheet_26 : decode mM_sheet.2.1 26 = .ok (.ifCond .eq 14, 3) := by decide +kernel
theorem dM_sheet_29 : decode mM_sheet.2.1 29 = .ok (.iload_n 3, 1) := by decide +kernel
theorem dM_sheet_30 : decode mM_sheet.2.1 30 = .ok (.ifCond .ge 10, 3) := by decide +kernel
theorem dM_sheet_33 : decode mM_sheet.2.1 33 = .ok (.aload_n 0, 1) := by decide +kernel
theorem dM_sheet_34 : decode mM_sheet.2.1 34 = .ok (.ldc 101, 2) := by decide +kernel
theorem dM_sheet_36 : decode mM_sheet.2.1 36 = .ok (.invokevirtual 79, 3) := by decide +kernel
theorem dM_sheet_39 : decode mM_sheet.2.1 39 = .ok (.ireturn, 1) := by decide +kernel
theorem dM_sheet_40 : decode mM_sheet.2.1 40 = .ok (.iload_n 2, 1) := by decide +kernel
theorem dM_sheet_41 : decode mM_sheet.2.1 41 = .ok (.ifCond .eq 16, 3) := by decide +kernel
theorem dM_sheet_44 : decode mM_sheet.2.1 44 = .ok (.iload_n 3, 1) := by decide +kernel
theorem dM_sheet_45 : decode mM_sheet.2.1 45 = .ok (.bipush 24, 2) := by decide +kernel
theorem dM_sheet_47 : decode mM_sheet.2.1 47 = .ok (.if_icmp .le 10, 3) := by decide +kernel
theorem dM_sheet_50 : decode mM_sheet.2.1 50 = .ok (.aload_n 0, 1) := by decide +kernel
theorem dM_sheet_51 : decode mM_sheet.2.1 51 = .ok (.ldc 78, 2) := by decide +kernel
theorem dM_sheet_53 : decode mM_sheet.2.1 53 = .ok (.invokevirtual 79, 3) := by decide +kernel
theorem dM_sheet_56 : decode mM_sheet.2.1 56 = .ok (.ireturn, 1) := by decide +kernel
theorem dM_sheet_57 : decode mM_sheet.2.1 57 = .ok (.aload_n 0, 1) := by decide +kernel
theorem dM_sheet_58 : decode mM_sheet.2.1 58 = .ok (.getfield 19, 3) := by decide +kernel
theorem dM_sheet_61 : decode mM_sheet.2.1 61 = .ok (.iload_n 1, 1) := by decide +kernel
theorem dM_sheet_62 : decode mM_sheet.2.1 62 = .ok (.iload_n 2, 1) := by decide +kernel
theorem dM_sheet_63 : decode mM_sheet.2.1 63 = .ok (.iastore, 1) := by decide +kernel
theorem dM_sheet_64 : decode mM_sheet.2.1 64 = .ok (.aload_n 0, 1) := by decide +kernel
theorem dM_sheet_65 : decode mM_sheet.2.1 65 = .ok (.getfield 22, 3) := by decide +kernel
theorem dM_sheet_68 : decode mM_sheet.2.1 68 = .ok (.iload_n 1, 1) := by decide +kernel
theorem dM_sheet_69 : decode mM_sheet.2.1 69 = .ok (.iload_n 2, 1) := by decide +kernel
theorem dM_sheet_70 : decode mM_sheet.2.1 70 = .ok (.ifCond .ne 7, 3) := by decide +kernel
theorem dM_sheet_73 : decode mM_sheet.2.1 73 = .ok (.iconst 0, 1) := by decide +kernel
theorem dM_sheet_74 : decode mM_sheet.2.1 74 = .ok (.goto 4, 3) := by decide +kernel
theorem dM_sheet_77 : decode mM_sheet.2.1 77 = .ok (.iload_n 3, 1) := by decide +kernel
theorem dM_sheet_78 : decode mM_sheet.2.1 78 = .ok (.iastore, 1) := by decide +kernel
theorem dM_sheet_79 : decode mM_sheet.2.1 79 = .ok (.iconst 0, 1) := by decide +kernel
theorem dM_sheet_80 : decode mM_sheet.2.1 80 = .ok (.istore 4, 2) := by decide +kernel
theorem dM_sheet_82 : decode mM_sheet.2.1 82 = .ok (.iload 4, 2) := by decide +kernel
theorem dM_sheet_84 : decode mM_sheet.2.1 84 = .ok (.bipush 24, 2) := by decide +kernel
theorem dM_sheet_86 : decode mM_sheet.2.1 86 = .ok (.if_icmp .ge 22, 3) := by decide +kernel
theorem dM_sheet_89 : decode mM_sheet.2.1 89 = .ok (.aload_n 0, 1) := by decide +kernel
theorem dM_sheet_90 : decode mM_sheet.2.1 90 = .ok (.getfield 25, 3) := by decide +kernel
theorem dM_sheet_93 : decode mM_sheet.2.1 93 = .ok (.bipush 24, 2) := by decide +kernel
theorem dM_sheet_95 : decode mM_sheet.2.1 95 = .ok (.iload_n 1, 1) := by decide +kernel
theorem dM_sheet_96 : decode mM_sheet.2.1 96 = .ok (.imul, 1) := by decide +kernel
theorem dM_sheet_97 : decode mM_sheet.2.1 97 = .ok (.iload 4, 2) := by decide +kernel
theorem dM_sheet_99 : decode mM_sheet.2.1 99 = .ok (.iadd, 1) := by decide +kernel
theorem dM_sheet_100 : decode mM_sheet.2.1 100 = .ok (.iconst 0, 1) := by decide +kernel
theorem dM_sheet_101 : decode mM_sheet.2.1 101 = .ok (.iastore, 1) := by decide +kernel
theorem dM_sheet_102 : decode mM_sheet.2.1 102 = .ok (.iinc 4 1, 3) := by decide +kernel
theorem dM_sheet_105 : decode mM_sheet.2.1 105 = .ok (.goto (-23), 3) := by decide +kernel
theorem dM_sheet_108 : decode mM_sheet.2.1 108 = .ok (.iconst 1, 1) := by decide +kernel
theorem dM_sheet_109 : decode mM_sheet.2.1 109 = .ok (.ireturn, 1) := by decide +kernel
theorem dM_isWidth_0 : decode mM_isWidth.2.1 0 = .ok (.iload_n 0, 1) := by decide +kernel
theorem dM_isWidth_1 : decode mM_isWidth.2.1 1 = .ok (.bipush 8, 2) := by decide +kernel
theorem dM_isWidth_3 : decode mM_isWidth.2.1 3 = .ok (.if_icmp .eq 15, 3) := by decide +kernel
theorem dM_isWidth_6 : decode mM_isWidth.2.1 6 = .ok (.iload_n 0, 1) := by decide +kernel
theorem dM_isWidth_7 : decode mM_isWidth.2.1 7 = .ok (.bipush 16, 2) := by decide +kernel
theorem dM_isWidth_9 : decode mM_isWidth.2.1 9 = .ok (.if_icmp .eq 9, 3) := by decide +kernel
theorem dM_isWidth_12 : decode mM_isWidth.2.1 12 = .ok (.iload_n 0, 1) := by decide +kernel
theorem dM_isWidth_13 : decode mM_isWidth.2.1 13 = .ok (.bipush 32, 2) := by decide +kernel
theorem dM_isWidth_15 : decode mM_isWidth.2.1 15 = .ok (.if_icmp .ne 7, 3) := by decide +kernel
theorem dM_isWidth_18 : decode mM_isWidth.2.1 18 = .ok (.iconst 1, 1) := by decide +kernel
theorem dM_isWidth_19 : decode mM_isWidth.2.1 19 = .ok (.goto 4, 3) := by decide +kernel
theorem dM_isWidth_22 : decode mM_isWidth.2.1 22 = .ok (.iconst 0, 1) := by decide +kernel
theorem dM_isWidth_23 : decode mM_isWidth.2.1 23 = .ok (.ireturn, 1) := by decide +kernel
theorem dM_put3_0 : decode mM_put3.2.1 0 = .ok (.iload_n 1, 1) := by decide +kernel
theorem dM_put3_1 : decode mM_put3.2.1 1 = .ok (.invokestatic 283, 3) := by decide +kernel
theorem dM_put3_4 : decode mM_put3.2.1 4 = .ok (.ifCond .ne 10, 3) := by decide +kernel
theorem dM_put3_7 : decode mM_put3.2.1 7 = .ok (.aload_n 0, 1) := by decide +kernel
theorem dM_put3_8 : decode mM_put3.2.1 8 = .ok (.ldc 78, 2) := by decide +kernel
theorem dM_put3_10 : decode mM_put3.2.1 10 = .ok (.invokevirtual 79, 3) := by decide +kernel
theorem dM_put3_13 : decode mM_put3.2.1 13 = .ok (.ireturn, 1) := by decide +kernel
theorem dM_put3_14 : decode mM_put3.2.1 14 = .ok (.aload_n 0, 1) := by decide +kernel
theorem dM_put3_15 : decode mM_put3.2.1 15 = .ok (.getfield 19, 3) := by decide +kernel
theorem dM_put3_18 : decode mM_put3.2.1 18 = .ok (.iload_n 1, 1) := by decide +kernel
theorem dM_put3_19 : decode mM_put3.2.1 19 = .ok (.iaload, 1) := by decide +kernel
theorem dM_put3_20 : decode mM_put3.2.1 20 = .ok (.ifCond .ne 10, 3) := by decide +kernel
theorem dM_put3_23 : decode mM_put3.2.1 23 = .ok (.aload_n 0, 1) := by decide +kernel
theorem dM_put3_24 : decode mM_put3.2.1 24 = .ok (.ldc 114, 2) := by decide +kernel
theorem dM_put3_26 : decode mM_put3.2.1 26 = .ok (.invokevirtual 79, 3) := by decide +kernel
theorem dM_put3_29 : decode mM_put3.2.1 29 = .ok (.ireturn, 1) := by decide +kernel
theorem dM_put3_30 : decode mM_put3.2.1 30 = .ok (.iload_n 2, 1) := by decide +kernel
theorem dM_put3_31 : decode mM_put3.2.1 31 = .ok (.i2l, 1) := by decide +kernel
theorem dM_put3_32 : decode mM_put3.2.1 32 = .ok (.lconst 0, 1) := by decide +kernel
theorem dM_put3_33 : decode mM_put3.2.1 33 = .ok (.aload_n 0, 1) := by decide +kernel
theorem dM_put3_34 : decode mM_put3.2.1 34 = .ok (.getfield 22, 3) := by decide +kernel
theorem dM_put3_37 : decode mM_put3.2.1 37 = .ok (.iload_n 1, 1) := by decide +kernel
theorem dM_put3_38 : decode mM_put3.2.1 38 = .ok (.iaload, 1) := by decide +kernel
theorem dM_put3_39 : decode mM_put3.2.1 39 = .ok (.iconst 1, 1) := by decide +kernel
theorem dM_put3_40 : decode mM_put3.2.1 40 = .ok (.isub, 1) := by decide +kernel
theorem dM_put3_41 : decode mM_put3.2.1 41 = .ok (.i2l, 1) := by decide +kernel
theorem dM_put3_42 : decode mM_put3.2.1 42 = .ok (.invokestatic 68, 3) := by decide +kernel
theorem dM_put3_45 : decode mM_put3.2.1 45 = .ok (.ifCond .ne 10, 3) := by decide +kernel
theorem dM_put3_48 : decode mM_put3.2.1 48 = .ok (.aload_n 0, 1) := by decide +kernel
theorem dM_put3_49 : decode mM_put3.2.1 49 = .ok (.ldc 78, 2) := by decide +kernel
theorem dM_put3_51 : decode mM_put3.2.1 51 = .ok (.invokevirtual 79, 3) := by decide +kernel
theorem dM_put3_54 : decode mM_put3.2.1 54 = .ok (.ireturn, 1) := by decide +kernel
theorem dM_put3_55 : decode mM_put3.2.1 55 = .ok (.aload_n 0, 1) := by decide +kernel
theorem dM_put3_56 : decode mM_put3.2.1 56 = .ok (.getfield 25, 3) := by decide +kernel
theorem dM_put3_59 : decode mM_put3.2.1 59 = .ok (.bipush 24, 2) := by decide +kernel
theorem dM_put3_61 : decode mM_put3.2.1 61 = .ok (.iload_n 1, 1) := by decide +kernel
theorem dM_put3_62 : decode mM_put3.2.1 62 = .ok (.imul, 1) := by decide +kernel
theorem dM_put3_63 : decode mM_put3.2.1 63 = .ok (.iload_n 2, 1) := by decide +kernel
theorem dM_put3_64 : decode mM_put3.2.1 64 = .ok (.iadd, 1) := by decide +kernel
theorem dM_put3_65 : decode mM_put3.2.1 65 = .ok (.aload_n 0, 1) := by decide +kernel
theorem dM_put3_66 : decode mM_put3.2.1 66 = .ok (.getfield 19, 3) := by decide +kernel
theorem dM_put3_69 : decode mM_put3.2.1 69 = .ok (.iload_n 1, 1) := by decide +kernel
theorem dM_put3_70 : decode mM_put3.2.1 70 = .ok (.iaload, 1) := by decide +kernel
theorem dM_put3_71 : decode mM_put3.2.1 71 = .ok (.bipush 8, 2) := by decide +kernel
theorem dM_put3_73 : decode mM_put3.2.1 73 = .ok (.if_icmp .ne 8, 3) := by decide +kernel
theorem dM_put3_76 : decode mM_put3.2.1 76 = .ok (.iload_n 3, 1) := by decide +kernel
theorem dM_put3_77 : decode mM_put3.2.1 77 = .ok (.i2b, 1) := by decide +kernel
theorem dM_put3_78 : decode mM_put3.2.1 78 = .ok (.goto 20, 3) := by decide +kernel
theorem dM_put3_81 : decode mM_put3.2.1 81 = .ok (.aload_n 0, 1) := by decide +kernel
theorem dM_put3_82 : decode mM_put3.2.1 82 = .ok (.getfield 19, 3) := by decide +kernel
theorem dM_put3_85 : decode mM_put3.2.1 85 = .ok (.iload_n 1, 1) := by decide +kernel
theorem dM_put3_86 : decode mM_put3.2.1 86 = .ok (.iaload, 1) := by decide +kernel
theorem dM_put3_87 : decode mM_put3.2.1 87 = .ok (.bipush 16, 2) := by decide +kernel
theorem dM_put3_89 : decode mM_put3.2.1 89 = .ok (.if_icmp .ne 8, 3) := by decide +kernel
theorem dM_put3_92 : decode mM_put3.2.1 92 = .ok (.iload_n 3, 1) := by decide +kernel
theorem dM_put3_93 : decode mM_put3.2.1 93 = .ok (.i2s, 1) := by decide +kernel
theorem dM_put3_94 : decode mM_put3.2.1 94 = .ok (.goto 4, 3) := by decide +kernel
theorem dM_put3_97 : decode mM_put3.2.1 97 = .ok (.iload_n 3, 1) := by decide +kernel
theorem dM_put3_98 : decode mM_put3.2.1 98 = .ok (.iastore, 1) := by decide +kernel
theorem dM_put3_99 : decode mM_put3.2.1 99 = .ok (.iconst 1, 1) := by decide +kernel
theorem dM_put3_100 : decode mM_put3.2.1 100 = .ok (.ireturn, 1) := by decide +kernel
theorem dM_move_0 : decode mM_move.2.1 0 = .ok (.iload_n 1, 1) := by decide +kernel
theorem dM_move_1 : decode mM_move.2.1 1 = .ok (.invokestatic 283, 3) := by decide +kernel
theorem dM_move_4 : decode mM_move.2.1 4 = .ok (.ifCond .eq 10, 3) := by decide +kernel
theorem dM_move_7 : decode mM_move.2.1 7 = .ok (.iload_n 3, 1) := by decide +kernel
theorem dM_move_8 : decode mM_move.2.1 8 = .ok (.invokestatic 283, 3) := by decide +kernel
theorem dM_move_11 : decode mM_move.2.1 11 = .ok (.ifCond .ne 10, 3) := by decide +kernel
theorem dM_move_14 : decode mM_move.2.1 14 = .ok (.aload_n 0, 1) := by decide +kernel
theorem dM_move_15 : decode mM_move.2.1 15 = .ok (.ldc 78, 2) := by decide +kernel
theorem dM_move_17 : decode mM_move.2.1 17 = .ok (.invokevirtual 79, 3) := by decide +kernel
theorem dM_move_20 : decode mM_move.2.1 20 = .ok (.ireturn, 1) := by decide +kernel
theorem dM_move_21 : decode mM_move.2.1 21 = .ok (.aload_n 0, 1) := by decide +kernel
theorem dM_move_22 : decode mM_move.2.1 22 = .ok (.getfield 19, 3) := by decide +kernel
theorem dM_move_25 : decode mM_move.2.1 25 = .ok (.iload_n 1, 1) := by decide +kernel
theorem dM_move_26 : decode mM_move.2.1 26 = .ok (.iaload, 1) := by decide +kernel
theorem dM_move_27 : decode mM_move.2.1 27 = .ok (.ifCond .eq 12, 3) := by decide +kernel
theorem dM_move_30 : decode mM_move.2.1 30 = .ok (.aload_n 0, 1) := by decide +kernel
theorem dM_move_31 : decode mM_move.2.1 31 = .ok (.getfield 19, 3) := by decide +kernel
theorem dM_move_34 : decode mM_move.2.1 34 = .ok (.iload_n 3, 1) := by decide +kernel
theorem dM_move_35 : decode mM_move.2.1 35 = .ok (.iaload, 1) := by decide +kernel
theorem dM_move_36 : decode mM_move.2.1 36 = .ok (.ifCond .ne 10, 3) := by decide +kernel
theorem dM_move_39 : decode mM_move.2.1 39 = .ok (.aload_n 0, 1) := by decide +kernel
theorem dM_move_40 : decode mM_move.2.1 40 = .ok (.ldc 114, 2) := by decide +kernel
theorem dM_move_42 : decode mM_move.2.1 42 = .ok (.invokevirtual 79, 3) := by decide +kernel
theorem dM_move_45 : decode mM_move.2.1 45 = .ok (.ireturn, 1) := by decide +kernel
theorem dM_move_46 : decode mM_move.2.1 46 = .ok (.aload_n 0, 1) := by decide +kernel
theorem dM_move_47 : decode mM_move.2.1 47 = .ok (.getfield 19, 3) := by decide +kernel
theorem dM_move_50 : decode mM_move.2.1 50 = .ok (.iload_n 1, 1) := by decide +kernel
theorem dM_move_51 : decode mM_move.2.1 51 = .ok (.iaload, 1) := by decide +kernel
theorem dM_move_52 : decode mM_move.2.1 52 = .ok (.aload_n 0, 1) := by decide +kernel
theorem dM_move_53 : decode mM_move.2.1 53 = .ok (.getfield 19, 3) := by decide +kernel
theorem dM_move_56 : decode mM_move.2.1 56 = .ok (.iload_n 3, 1) := by decide +kernel
theorem dM_move_57 : decode mM_move.2.1 57 = .ok (.iaload, 1) := by decide +kernel
theorem dM_move_58 : decode mM_move.2.1 58 = .ok (.if_icmp .eq 10, 3) := by decide +kernel
theorem dM_move_61 : decode mM_move.2.1 61 = .ok (.aload_n 0, 1) := by decide +kernel
theorem dM_move_62 : decode mM_move.2.1 62 = .ok (.ldc 94, 2) := by decide +kernel
theorem dM_move_64 : decode mM_move.2.1 64 = .ok (.invokevirtual 79, 3) := by decide +kernel
theorem dM_move_67 : decode mM_move.2.1 67 = .ok (.ireturn, 1) := by decide +kernel
theorem dM_move_68 : decode mM_move.2.1 68 = .ok (.iload 5, 2) := by decide +kernel
theorem dM_move_70 : decode mM_move.2.1 70 = .ok (.ifCond .lt 47, 3) := by decide +kernel
theorem dM_move_73 : decode mM_move.2.1 73 = .ok (.iload_n 2, 1) := by decide +kernel
theorem dM_move_74 : decode mM_move.2.1 74 = .ok (.ifCond .lt 43, 3) := by decide +kernel
theorem dM_move_77 : decode mM_move.2.1 77 = .ok (.iload 4, 2) := by decide +kernel
theorem dM_move_79 : decode mM_move.2.1 79 = .ok (.ifCond .lt 38, 3) := by decide +kernel
theorem dM_move_82 : decode mM_move.2.1 82 = .ok (.iload_n 2, 1) := by decide +kernel
theorem dM_move_83 : decode mM_move.2.1 83 = .ok (.i2l, 1) := by decide +kernel
theorem dM_move_84 : decode mM_move.2.1 84 = .ok (.iload 5, 2) := by decide +kernel
theorem dM_move_86 : decode mM_move.2.1 86 = .ok (.i2l, 1) := by decide +kernel
theorem dM_move_87 : decode mM_move.2.1 87 = .ok (.ladd, 1) := by decide +kernel
theorem dM_move_88 : decode mM_move.2.1 88 = .ok (.aload_n 0, 1) := by decide +kernel
theorem dM_move_89 : decode mM_move.2.1 89 = .ok (.getfield 22, 3) := by decide +kernel
theorem dM_move_92 : decode mM_move.2.1 92 = .ok (.iload_n 1, 1) := by decide +kernel
theorem dM_move_93 : decode mM_move.2.1 93 = .ok (.iaload, 1) := by decide +kernel
theorem dM_move_94 : decode mM_move.2.1 94 = .ok (.i2l, 1) := by decide +kernel
theorem dM_move_95 : decode mM_move.2.1 95 = .ok (.lcmp, 1) := by decide +kernel
theorem dM_move_96 : decode mM_move.2.1 96 = .ok (.ifCond .gt 21, 3) := by decide +kernel
theorem dM_move_99 : decode mM_move.2.1 99 = .ok (.iload 4, 2) := by decide +kernel
theorem dM_move_101 : decode mM_move.2.1 101 = .ok (.i2l, 1) := by decide +kernel
theorem dM_move_102 : decode mM_move.2.1 102 = .ok (.iload 5, 2) := by decide +kernel
theorem dM_move_104 : decode mM_move.2.1 104 = .ok (.i2l, 1) := by decide +kernel
theorem dM_move_105 : decode mM_move.2.1 105 = .ok (.ladd, 1) := by decide +kernel
theorem dM_move_106 : decode mM_move.2.1 106 = .ok (.aload_n 0, 1) := by decide +kernel
theorem dM_move_107 : decode mM_move.2.1 107 = .ok (.getfield 22, 3) := by decide +kernel
theorem dM_move_110 : decode mM_move.2.1 110 = .ok (.iload_n 3, 1) := by decide +kernel
theorem dM_move_111 : decode mM_move.2.1 111 = .ok (.iaload, 1) := by decide +kernel
theorem dM_move_112 : decode mM_move.2.1 112 = .ok (.i2l, 1) := by decide +kernel
theorem dM_move_113 : decode mM_move.2.1 113 = .ok (.lcmp, 1) := by decide +kernel
theorem dM_move_114 : decode mM_move.2.1 114 = .ok (.ifCond .le 10, 3) := by decide +kernel
theorem dM_move_117 : decode mM_move.2.1 117 = .ok (.aload_n 0, 1) := by decide +kernel
theorem dM_move_118 : decode mM_move.2.1 118 = .ok (.ldc 78, 2) := by decide +kernel
theorem dM_move_120 : decode mM_move.2.1 120 = .ok (.invokevirtual 79, 3) := by decide +kernel
theorem dM_move_123 : decode mM_move.2.1 123 = .ok (.ireturn, 1) := by decide +kernel
theorem dM_move_124 : decode mM_move.2.1 124 = .ok (.iconst 0, 1) := by decide +kernel
theorem dM_move_125 : decode mM_move.2.1 125 = .ok (.istore 6, 2) := by decide +kernel
theorem dM_move_127 : decode mM_move.2.1 127 = .ok (.iload 6, 2) := by decide +kernel
theorem dM_move_129 : decode mM_move.2.1 129 = .ok (.iload 5, 2) := by decide +kernel
theorem dM_move_131 : decode mM_move.2.1 131 = .ok (.if_icmp .ge 30, 3) := by decide +kernel
theorem dM_move_134 : decode mM_move.2.1 134 = .ok (.aload_n 0, 1) := by decide +kernel
theorem dM_move_135 : decode mM_move.2.1 135 = .ok (.getfield 61, 3) := by decide +kernel
theorem dM_move_138 : decode mM_move.2.1 138 = .ok (.iload 6, 2) := by decide +kernel
theorem dM_move_140 : decode mM_move.2.1 140 = .ok (.aload_n 0, 1) := by decide +kernel
theorem dM_move_141 : decode mM_move.2.1 141 = .ok (.getfield 25, 3) := by decide +kernel
theorem dM_move_144 : decode mM_move.2.1 144 = .ok (.bipush 24, 2) := by decide +kernel
theorem dM_move_146 : decode mM_move.2.1 146 = .ok (.iload_n 1, 1) := by decide +kernel
theorem dM_move_147 : decode mM_move.2.1 147 = .ok (.imul, 1) := by decide +kernel
theorem dM_move_148 : decode mM_move.2.1 148 = .ok (.iload_n 2, 1) := by decide +kernel
theorem dM_move_149 : decode mM_move.2.1 149 = .ok (.iadd, 1) := by decide +kernel
theorem dM_move_150 : decode mM_move.2.1 150 = .ok (.iload 6, 2) := by decide +kernel
theorem dM_move_152 : decode mM_move.2.1 152 = .ok (.iadd, 1) := by decide +kernel
theorem dM_move_153 : decode mM_move.2.1 153 = .ok (.iaload, 1) := by decide +kernel
theorem dM_move_154 : decode mM_move.2.1 154 = .ok (.iastore, 1) := by decide +kernel
theorem dM_move_155 : decode mM_move.2.1 155 = .ok (.iinc 6 1, 3) := by decide +kernel
theorem dM_move_158 : decode mM_move.2.1 158 = .ok (.goto (-31), 3) := by decide +kernel
theorem dM_move_161 : decode mM_move.2.1 161 = .ok (.iconst 0, 1) := by decide +kernel
theorem dM_move_162 : decode mM_move.2.1 162 = .ok (.istore 6, 2) := by decide +kernel
theorem dM_move_164 : decode mM_move.2.1 164 = .ok (.iload 6, 2) := by decide +kernel
theorem dM_move_166 : decode mM_move.2.1 166 = .ok (.iload 5, 2) := by decide +kernel
theorem dM_move_168 : decode mM_move.2.1 168 = .ok (.if_icmp .ge 31, 3) := by decide +kernel
theorem dM_move_171 : decode mM_move.2.1 171 = .ok (.aload_n 0, 1) := by decide +kernel
theorem dM_move_172 : decode mM_move.2.1 172 = .ok (.getfield 25, 3) := by decide +kernel
theorem dM_move_175 : decode mM_move.2.1 175 = .ok (.bipush 24, 2) := by decide +kernel
theorem dM_move_177 : decode mM_move.2.1 177 = .ok (.iload_n 3, 1) := by decide +kernel
theorem dM_move_178 : decode mM_move.2.1 178 = .ok (.imul, 1) := by decide +kernel
theorem dM_move_179 : decode mM_move.2.1 179 = .ok (.iload 4, 2) := by decide +kernel
theorem dM_move_181 : decode mM_move.2.1 181 = .ok (.iadd, 1) := by decide +kernel
theorem dM_move_182 : decode mM_move.2.1 182 = .ok (.iload 6, 2) := by decide +kernel
theorem dM_move_184 : decode mM_move.2.1 184 = .ok (.iadd, 1) := by decide +kernel
theorem dM_move_185 : decode mM_move.2.1 185 = .ok (.aload_n 0, 1) := by decide +kernel
theorem dM_move_186 : decode mM_move.2.1 186 = .ok (.getfield 61, 3) := by decide +kernel
theorem dM_move_189 : decode mM_move.2.1 189 = .ok (.iload 6, 2) := by decide +kernel
theorem dM_move_191 : decode mM_move.2.1 191 = .ok (.iaload, 1) := by decide +kernel
theorem dM_move_192 : decode mM_move.2.1 192 = .ok (.iastore, 1) := by decide +kernel
theorem dM_move_193 : decode mM_move.2.1 193 = .ok (.iinc 6 1, 3) := by decide +kernel
theorem dM_move_196 : decode mM_move.2.1 196 = .ok (.goto (-32), 3) := by decide +kernel
theorem dM_move_199 : decode mM_move.2.1 199 = .ok (.iload 5, 2) := by decide +kernel
theorem dM_move_201 : decode mM_move.2.1 201 = .ok (.ireturn, 1) := by decide +kernel
theorem dM_image_0 : decode mM_image.2.1 0 = .ok (.iconst 0, 1) := by decide +kernel
theorem dM_image_1 : decode mM_image.2.1 1 = .ok (.istore_n 1, 1) := by decide +kernel
theorem dM_image_2 : decode mM_image.2.1 2 = .ok (.iload_n 1, 1) := by decide +kernel
theorem dM_image_3 : decode mM_image.2.1 3 = .ok (.sipush 1993, 3) := by decide +kernel
theorem dM_image_6 : decode mM_image.2.1 6 = .ok (.if_icmp .ge 21, 3) := by decide +kernel
theorem dM_image_9 : decode mM_image.2.1 9 = .ok (.aload_n 0, 1) := by decide +kernel
theorem dM_image_10 : decode mM_image.2.1 10 = .ok (.getfield 13, 3) := by decide +kernel
theorem dM_image_13 : decode mM_image.2.1 13 = .ok (.iload_n 1, 1) := by decide +kernel
theorem dM_image_14 : decode mM_image.2.1 14 = .ok (.aload_n 0, 1) := by decide +kernel
theorem dM_image_15 : decode mM_image.2.1 15 = .ok (.getfield 9, 3) := by decide +kernel
theorem dM_image_18 : decode mM_image.2.1 18 = .ok (.iload_n 1, 1) := by decide +kernel
theorem dM_image_19 : decode mM_image.2.1 19 = .ok (.iaload, 1) := by decide +kernel
theorem dM_image_20 : decode mM_image.2.1 20 = .ok (.iastore, 1) := by decide +kernel
theorem dM_image_21 : decode mM_image.2.1 21 = .ok (.iinc 1 1, 3) := by decide +kernel
theorem dM_image_24 : decode mM_image.2.1 24 = .ok (.goto (-22), 3) := by decide +kernel
theorem dM_image_27 : decode mM_image.2.1 27 = .ok (.aload_n 0, 1) := by decide +kernel
theorem dM_image_28 : decode mM_image.2.1 28 = .ok (.dup, 1) := by decide +kernel
theorem dM_image_29 : decode mM_image.2.1 29 = .ok (.getfield 310, 3) := by decide +kernel
theorem dM_image_32 : decode mM_image.2.1 32 = .ok (.iconst 1, 1) := by decide +kernel
theorem dM_image_33 : decode mM_image.2.1 33 = .ok (.iadd, 1) := by decide +kernel
theorem dM_image_34 : decode mM_image.2.1 34 = .ok (.putfield 310, 3) := by decide +kernel
theorem dM_image_37 : decode mM_image.2.1 37 = .ok (.aload_n 0, 1) := by decide +kernel
theorem dM_image_38 : decode mM_image.2.1 38 = .ok (.getfield 310, 3) := by decide +kernel
theorem dM_image_41 : decode mM_image.2.1 41 = .ok (.ireturn, 1) := by decide +kernel
theorem dM_restore_0 : decode mM_restore.2.1 0 = .ok (.aload_n 0, 1) := by decide +kernel
theorem dM_restore_1 : decode mM_restore.2.1 1 = .ok (.getfield 310, 3) := by decide +kernel
theorem dM_restore_4 : decode mM_restore.2.1 4 = .ok (.ifCond .ne 10, 3) := by decide +kernel
theorem dM_restore_7 : decode mM_restore.2.1 7 = .ok (.aload_n 0, 1) := by decide +kernel
theorem dM_restore_8 : decode mM_restore.2.1 8 = .ok (.ldc 114, 2) := by decide +kernel
theorem dM_restore_10 : decode mM_restore.2.1 10 = .ok (.invokevirtual 79, 3) := by decide +kernel
theorem dM_restore_13 : decode mM_restore.2.1 13 = .ok (.ireturn, 1) := by decide +kernel
theorem dM_restore_14 : decode mM_restore.2.1 14 = .ok (.iconst 0, 1) := by decide +kernel
theorem dM_restore_15 : decode mM_restore.2.1 15 = .ok (.istore_n 1, 1) := by decide +kernel
theorem dM_restore_16 : decode mM_restore.2.1 16 = .ok (.iload_n 1, 1) := by decide +kernel
theorem dM_restore_17 : decode mM_restore.2.1 17 = .ok (.sipush 1993, 3) := by decide +kernel
theorem dM_restore_20 : decode mM_restore.2.1 20 = .ok (.if_icmp .ge 21, 3) := by decide +kernel
theorem dM_restore_23 : decode mM_restore.2.1 23 = .ok (.aload_n 0, 1) := by decide +kernel
theorem dM_restore_24 : decode mM_restore.2.1 24 = .ok (.getfield 9, 3) := by decide +kernel
theorem dM_restore_27 : decode mM_restore.2.1 27 = .ok (.iload_n 1, 1) := by decide +kernel
theorem dM_restore_28 : decode mM_restore.2.1 28 = .ok (.aload_n 0, 1) := by decide +kernel
theorem dM_restore_29 : decode mM_restore.2.1 29 = .ok (.getfield 13, 3) := by decide +kernel
theorem dM_restore_32 : decode mM_restore.2.1 32 = .ok (.iload_n 1, 1) := by decide +kernel
theorem dM_restore_33 : decode mM_restore.2.1 33 = .ok (.iaload, 1) := by decide +kernel
theorem dM_restore_34 : decode mM_restore.2.1 34 = .ok (.iastore, 1) := by decide +kernel
theorem dM_restore_35 : decode mM_restore.2.1 35 = .ok (.iinc 1 1, 3) := by decide +kernel
theorem dM_restore_38 : decode mM_restore.2.1 38 = .ok (.goto (-22), 3) := by decide +kernel
theorem dM_restore_41 : decode mM_restore.2.1 41 = .ok (.aload_n 0, 1) := by decide +kernel
theorem dM_restore_42 : decode mM_restore.2.1 42 = .ok (.invokevirtual 64, 3) := by decide +kernel
theorem dM_restore_45 : decode mM_restore.2.1 45 = .ok (.aload_n 0, 1) := by decide +kernel
theorem dM_restore_46 : decode mM_restore.2.1 46 = .ok (.getfield 9, 3) := by decide +kernel
theorem dM_restore_49 : decode mM_restore.2.1 49 = .ok (.iconst 0, 1) := by decide +kernel
theorem dM_restore_50 : decode mM_restore.2.1 50 = .ok (.iaload, 1) := by decide +kernel
theorem dM_restore_51 : decode mM_restore.2.1 51 = .ok (.ireturn, 1) := by decide +kernel
theorem dM_told_0 : decode mM_told.2.1 0 = .ok (.iconst 0, 1) := by decide +kernel
theorem dM_told_1 : decode mM_told.2.1 1 = .ok (.istore_n 2, 1) := by decide +kernel
theorem dM_told_2 : decode mM_told.2.1 2 = .ok (.iload_n 1, 1) := by decide +kernel
theorem dM_told_3 : decode mM_told.2.1 3 = .ok (.tableswitch 184 0 9 #[53, 60, 67, 74, 119, 126, 133, 163, 171, 179], 53) := by decide +kernel
theorem dM_told_56 : decode mM_told.2.1 56 = .ok (.aload_n 0, 1) := by decide +kernel
theorem dM_told_57 : decode mM_told.2.1 57 = .ok (.getfield 9, 3) := by decide +kernel
theorem dM_told_60 : decode mM_told.2.1 60 = .ok (.iconst 2, 1) := by decide +kernel
theorem dM_told_61 : decode mM_told.2.1 61 = .ok (.iaload, 1) := by decide +kernel
theorem dM_told_62 : decode mM_told.2.1 62 = .ok (.ireturn, 1) := by decide +kernel
theorem dM_told_63 : decode mM_told.2.1 63 = .ok (.aload_n 0, 1) := by decide +kernel
theorem dM_told_64 : decode mM_told.2.1 64 = .ok (.getfield 9, 3) := by decide +kernel
theorem dM_told_67 : decode mM_told.2.1 67 = .ok (.iconst 3, 1) := by decide +kernel
theorem dM_told_68 : decode mM_told.2.1 68 = .ok (.iaload, 1) := by decide +kernel
theorem dM_told_69 : decode mM_told.2.1 69 = .ok (.ireturn, 1) := by decide +kernel
theorem dM_told_70 : decode mM_told.2.1 70 = .ok (.aload_n 0, 1) := by decide +kernel
theorem dM_told_71 : decode mM_told.2.1 71 = .ok (.getfield 9, 3) := by decide +kernel
theorem dM_told_74 : decode mM_told.2.1 74 = .ok (.iconst 4, 1) := by decide +kernel
theorem dM_told_75 : decode mM_told.2.1 75 = .ok (.iaload, 1) := by decide +kernel
theorem dM_told_76 : decode mM_told.2.1 76 = .ok (.ireturn, 1) := by decide +kernel
theorem dM_told_77 : decode mM_told.2.1 77 = .ok (.iconst 0, 1) := by decide +kernel
theorem dM_told_78 : decode mM_told.2.1 78 = .ok (.istore_n 3, 1) := by decide +kernel
theorem dM_told_79 : decode mM_told.2.1 79 = .ok (.iload_n 3, 1) := by decide +kernel
theorem dM_told_80 : decode mM_told.2.1 80 = .ok (.aload_n 0, 1) := by decide +kernel
theorem dM_told_81 : decode mM_told.2.1 81 = .ok (.getfield 9, 3) := by decide +kernel
theorem dM_told_84 : decode mM_told.2.1 84 = .ok (.iconst 4, 1) := by decide +kernel
theorem dM_told_85 : decode mM_told.2.1 85 = .ok (.iaload, 1) := by decide +kernel
theorem dM_told_86 : decode mM_told.2.1 86 = .ok (.if_icmp .ge 34, 3) := by decide +kernel
theorem dM_told_89 : decode mM_told.2.1 89 = .ok (.iload_n 2, 1) := by decide +kernel
theorem dM_told_90 : decode mM_told.2.1 90 = .ok (.aload_n 0, 1) := by decide +kernel
theorem dM_told_91 : decode mM_told.2.1 91 = .ok (.aload_n 0, 1) := by decide +kernel
theorem dM_told_92 : decode mM_told.2.1 92 = .ok (.getfield 9, 3) := by decide +kernel
theorem dM_told_95 : decode mM_told.2.1 95 = .ok (.iconst 0, 1) := by decide +kernel
theorem dM_told_96 : decode mM_told.2.1 96 = .ok (.iaload, 1) := by decide +kernel
theorem dM_told_97 : decode mM_told.2.1 97 = .ok (.invokevirtual 132, 3) := by decide +kernel
theorem dM_told_100 : decode mM_told.2.1 100 = .ok (.iload_n 3, 1) := by decide +kernel
theorem dM_told_101 : decode mM_told.2.1 101 = .ok (.invokestatic 102, 3) := by decide +kernel
theorem dM_told_104 : decode mM_told.2.1 104 = .ok (.ifCond .eq 7, 3) := by decide +kernel
theorem dM_told_107 : decode mM_told.2.1 107 = .ok (.iconst 1, 1) := by decide +kernel
theorem dM_told_108 : decode mM_told.2.1 108 = .ok (.goto 4, 3) := by decide +kernel
theorem dM_told_111 : decode mM_told.2.1 111 = .ok (.iconst 0, 1) := by decide +kernel
theorem dM_told_112 : decode mM_told.2.1 112 = .ok (.iadd, 1) := by decide +kernel
theorem dM_told_113 : decode mM_told.2.1 113 = .ok (.istore_n 2, 1) := by decide +kernel
theorem dM_told_114 : decode mM_told.2.1 114 = .ok (.iinc 3 1, 3) := by decide +kernel
theorem dM_told_117 : decode mM_told.2.1 117 = .ok (.goto (-38), 3) := by decide +kernel
theorem dM_told_120 : decode mM_told.2.1 120 = .ok (.iload_n 2, 1) := by decide +kernel
theorem dM_told_121 : decode mM_told.2.1 121 = .ok (.ireturn, 1) := by decide +kernel
theorem dM_told_122 : decode mM_told.2.1 122 = .ok (.aload_n 0, 1) := by decide +kernel
theorem dM_told_123 : decode mM_told.2.1 123 = .ok (.getfield 9, 3) := by decide +kernel
theorem dM_told_126 : decode mM_told.2.1 126 = .ok (.iconst 5, 1) := by decide +kernel
theorem dM_told_127 : decode mM_told.2.1 127 = .ok (.iaload, 1) := by decide +kernel
theorem dM_told_128 : decode mM_told.2.1 128 = .ok (.ireturn, 1) := by decide +kernel
theorem dM_told_129 : decode mM_told.2.1 129 = .ok (.aload_n 0, 1) := by decide +kernel
theorem dM_told_130 : decode mM_told.2.1 130 = .ok (.getfield 9, 3) := by decide +kernel
theorem dM_told_133 : decode mM_told.2.1 133 = .ok (.iconst 0, 1) := by decide +kernel
theorem dM_told_134 : decode mM_told.2.1 134 = .ok (.iaload, 1) := by decide +kernel
theorem dM_told_135 : decode mM_told.2.1 135 = .ok (.ireturn, 1) := by decide +kernel
theorem dM_told_136 : decode mM_told.2.1 136 = .ok (.iconst 0, 1) := by decide +kernel
theorem dM_told_137 : decode mM_told.2.1 137 = .ok (.istore_n 3, 1) := by decide +kernel
theorem dM_told_138 : decode mM_told.2.1 138 = .ok (.iload_n 3, 1) := by decide +kernel
theorem dM_told_139 : decode mM_told.2.1 139 = .ok (.sipush 900, 3) := by decide +kernel
theorem dM_told_142 : decode mM_told.2.1 142 = .ok (.if_icmp .ge 22, 3) := by decide +kernel
theorem dM_told_145 : decode mM_told.2.1 145 = .ok (.iload_n 2, 1) := by decide +kernel
theorem dM_told_146 : decode mM_told.2.1 146 = .ok (.aload_n 0, 1) := by decide +kernel
theorem dM_told_147 : decode mM_told.2.1 147 = .ok (.getfield 9, 3) := by decide +kernel
theorem dM_told_150 : decode mM_told.2.1 150 = .ok (.sipush 1033, 3) := by decide +kernel
theorem dM_told_153 : decode mM_told.2.1 153 = .ok (.iload_n 3, 1) := by decide +kernel
theorem dM_told_154 : decode mM_told.2.1 154 = .ok (.iadd, 1) := by decide +kernel
theorem dM_told_155 : decode mM_told.2.1 155 = .ok (.iaload, 1) := by decide +kernel
theorem dM_told_156 : decode mM_told.2.1 156 = .ok (.iadd, 1) := by decide +kernel
theorem dM_told_157 : decode mM_told.2.1 157 = .ok (.istore_n 2, 1) := by decide +kernel
theorem dM_told_158 : decode mM_told.2.1 158 = .ok (.iinc 3 1, 3) := by decide +kernel
theorem dM_told_161 : decode mM_told.2.1 161 = .ok (.goto (-23), 3) := by decide +kernel
theorem dM_told_164 : decode mM_told.2.1 164 = .ok (.iload_n 2, 1) := by decide +kernel
theorem dM_told_165 : decode mM_told.2.1 165 = .ok (.ireturn, 1) := by decide +kernel
theorem dM_told_166 : decode mM_told.2.1 166 = .ok (.aload_n 0, 1) := by decide +kernel
theorem dM_told_167 : decode mM_told.2.1 167 = .ok (.getfield 9, 3) := by decide +kernel
theorem dM_told_170 : decode mM_told.2.1 170 = .ok (.bipush 7, 2) := by decide +kernel
theorem dM_told_172 : decode mM_told.2.1 172 = .ok (.iaload, 1) := by decide +kernel
theorem dM_told_173 : decode mM_told.2.1 173 = .ok (.ireturn, 1) := by decide +kernel
theorem dM_told_174 : decode mM_told.2.1 174 = .ok (.aload_n 0, 1) := by decide +kernel
theorem dM_told_175 : decode mM_told.2.1 175 = .ok (.getfield 9, 3) := by decide +kernel
theorem dM_told_178 : decode mM_told.2.1 178 = .ok (.bipush 6, 2) := by decide +kernel
theorem dM_told_180 : decode mM_told.2.1 180 = .ok (.iaload, 1) := by decide +kernel
theorem dM_told_181 : decode mM_told.2.1 181 = .ok (.ireturn, 1) := by decide +kernel
theorem dM_told_182 : decode mM_told.2.1 182 = .ok (.aload_n 0, 1) := by decide +kernel
theorem dM_told_183 : decode mM_told.2.1 183 = .ok (.getfield 286, 3) := by decide +kernel
theorem dM_told_186 : decode mM_told.2.1 186 = .ok (.ireturn, 1) := by decide +kernel
theorem dM_told_187 : decode mM_told.2.1 187 = .ok (.aload_n 0, 1) := by decide +kernel
theorem dM_told_188 : decode mM_told.2.1 188 = .ok (.ldc 78, 2) := by decide +kernel
theorem dM_told_190 : decode mM_told.2.1 190 = .ok (.invokevirtual 79, 3) := by decide +kernel
theorem dM_told_193 : decode mM_told.2.1 193 = .ok (.ireturn, 1) := by decide +kernel
theorem dM_found_0 : decode mM_found.2.1 0 = .ok (.iload_n 1, 1) := by decide +kernel
theorem dM_found_1 : decode mM_found.2.1 1 = .ok (.i2l, 1) := by decide +kernel
theorem dM_found_2 : decode mM_found.2.1 2 = .ok (.lconst 1, 1) := by decide +kernel
theorem dM_found_3 : decode mM_found.2.1 3 = .ok (.ldc2_w 74, 3) := by decide +kernel
theorem dM_found_6 : decode mM_found.2.1 6 = .ok (.invokestatic 68, 3) := by decide +kernel
theorem dM_found_9 : decode mM_found.2.1 9 = .ok (.ifCond .eq 12, 3) := by decide +kernel
theorem dM_found_12 : decode mM_found.2.1 12 = .ok (.aload_n 0, 1) := by decide +kernel
theorem dM_found_13 : decode mM_found.2.1 13 = .ok (.getfield 16, 3) := by decide +kernel
theorem dM_found_16 : decode mM_found.2.1 16 = .ok (.iload_n 1, 1) := by decide +kernel
theorem dM_found_17 : decode mM_found.2.1 17 = .ok (.iaload, 1) := by decide +kernel
theorem dM_found_18 : decode mM_found.2.1 18 = .ok (.goto 9, 3) := by decide +kernel
theorem dM_found_21 : decode mM_found.2.1 21 = .ok (.aload_n 0, 1) := by decide +kernel
theorem dM_found_22 : decode mM_found.2.1 22 = .ok (.ldc 78, 2) := by decide +kernel
theorem dM_found_24 : decode mM_found.2.1 24 = .ok (.invokevirtual 79, 3) := by decide +kernel
theorem dM_found_27 : decode mM_found.2.1 27 = .ok (.ireturn, 1) := by decide +kernel
