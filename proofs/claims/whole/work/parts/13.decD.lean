theorem dD_init_0 : decode mD_init.2.1 0 = .ok (.aload_n 0, 1) := by decide +kernel
theorem dD_init_1 : decode mD_init.2.1 1 = .ok (.invokespecial 3, 3) := by decide +kernel
theorem dD_init_4 : decode mD_init.2.1 4 = .ok (.aload_n 0, 1) := by decide +kernel
theorem dD_init_5 : decode mD_init.2.1 5 = .ok (.new 9, 3) := by decide +kernel
theorem dD_init_8 : decode mD_init.2.1 8 = .ok (.dup, 1) := by decide +kernel
theorem dD_init_9 : decode mD_init.2.1 9 = .ok (.invokespecial 11, 3) := by decide +kernel
theorem dD_init_12 : decode mD_init.2.1 12 = .ok (.putfield 12, 3) := by decide +kernel
theorem dD_init_15 : decode mD_init.2.1 15 = .ok (.aload_n 0, 1) := by decide +kernel
theorem dD_init_16 : decode mD_init.2.1 16 = .ok (.new 9, 3) := by decide +kernel
theorem dD_init_19 : decode mD_init.2.1 19 = .ok (.dup, 1) := by decide +kernel
theorem dD_init_20 : decode mD_init.2.1 20 = .ok (.invokespecial 11, 3) := by decide +kernel
theorem dD_init_23 : decode mD_init.2.1 23 = .ok (.putfield 16, 3) := by decide +kernel
theorem dD_init_26 : decode mD_init.2.1 26 = .ok (.aload_n 0, 1) := by decide +kernel
theorem dD_init_27 : decode mD_init.2.1 27 = .ok (.new 19, 3) := by decide +kernel
theorem dD_init_30 : decode mD_init.2.1 30 = .ok (.dup, 1) := by decide +kernel
theorem dD_init_31 : decode mD_init.2.1 31 = .ok (.invokespecial 21, 3) := by decide +kernel
theorem dD_init_34 : decode mD_init.2.1 34 = .ok (.putfield 22, 3) := by decide +kernel
theorem dD_init_37 : decode mD_init.2.1 37 = .ok (.aload_n 0, 1) := by decide +kernel
theorem dD_init_38 : decode mD_init.2.1 38 = .ok (.new 26, 3) := by decide +kernel
theorem dD_init_41 : decode mD_init.2.1 41 = .ok (.dup, 1) := by decide +kernel
theorem dD_init_42 : decode mD_init.2.1 42 = .ok (.invokespecial 28, 3) := by decide +kernel
theorem dD_init_45 : decode mD_init.2.1 45 = .ok (.putfield 29, 3) := by decide +kernel
theorem dD_init_48 : decode mD_init.2.1 48 = .ok (.aload_n 0, 1) := by decide +kernel
theorem dD_init_49 : decode mD_init.2.1 49 = .ok (.new 33, 3) := by decide +kernel
theorem dD_init_52 : decode mD_init.2.1 52 = .ok (.dup, 1) := by decide +kernel
theorem dD_init_53 : decode mD_init.2.1 53 = .ok (.invokespecial 35, 3) := by decide +kernel
theorem dD_init_56 : decode mD_init.2.1 56 = .ok (.putfield 36, 3) := by decide +kernel
theorem dD_init_59 : decode mD_init.2.1 59 = .ok (.aload_n 0, 1) := by decide +kernel
theorem dD_init_60 : decode mD_init.2.1 60 = .ok (.iconst 4, 1) := by decide +kernel
theorem dD_init_61 : decode mD_init.2.1 61 = .ok (.anewarray 40, 3) := by decide +kernel
theorem dD_init_64 : decode mD_init.2.1 64 = .ok (.putfield 42, 3) := by decide +kernel
theorem dD_init_67 : decode mD_init.2.1 67 = .ok (.aload_n 0, 1) := by decide +kernel
theorem dD_init_68 : decode mD_init.2.1 68 = .ok (.bipush 6, 2) := by decide +kernel
theorem dD_init_70 : decode mD_init.2.1 70 = .ok (.newarray .int, 2) := by decide +kernel
theorem dD_init_72 : decode mD_init.2.1 72 = .ok (.putfield 46, 3) := by decide +kernel
theorem dD_init_75 : decode mD_init.2.1 75 = .ok (.aload_n 0, 1) := by decide +kernel
theorem dD_init_76 : decode mD_init.2.1 76 = .ok (.iconst 5, 1) := by decide +kernel
theorem dD_init_77 : decode mD_init.2.1 77 = .ok (.newarray .int, 2) := by decide +kernel
theorem dD_init_79 : decode mD_init.2.1 79 = .ok (.putfield 50, 3) := by decide +kernel
theorem dD_init_82 : decode mD_init.2.1 82 = .ok (.aload_n 0, 1) := by decide +kernel
theorem dD_init_83 : decode mD_init.2.1 83 = .ok (.iconst 5, 1) := by decide +kernel
theorem dD_init_84 : decode mD_init.2.1 84 = .ok (.newarray .int, 2) := by decide +kernel
theorem dD_init_86 : decode mD_init.2.1 86 = .ok (.putfield 53, 3) := by decide +kernel
theorem dD_init_89 : decode mD_init.2.1 89 = .ok (.aload_n 0, 1) := by decide +kernel
theorem dD_init_90 : decode mD_init.2.1 90 = .ok (.iconst 0, 1) := by decide +kernel
theorem dD_init_91 : decode mD_init.2.1 91 = .ok (.putfield 56, 3) := by decide +kernel
theorem dD_init_94 : decode mD_init.2.1 94 = .ok (.iconst 0, 1) := by decide +kernel
theorem dD_init_95 : decode mD_init.2.1 95 = .ok (.istore_n 1, 1) := by decide +kernel
theorem dD_init_96 : decode mD_init.2.1 96 = .ok (.iload_n 1, 1) := by decide +kernel
theorem dD_init_97 : decode mD_init.2.1 97 = .ok (.iconst 4, 1) := by decide +kernel
theorem dD_init_98 : decode mD_init.2.1 98 = .ok (.if_icmp .ge 22, 3) := by decide +kernel
theorem dD_init_101 : decode mD_init.2.1 101 = .ok (.aload_n 0, 1) := by decide +kernel
theorem dD_init_102 : decode mD_init.2.1 102 = .ok (.getfield 42, 3) := by decide +kernel
theorem dD_init_105 : decode mD_init.2.1 105 = .ok (.iload_n 1, 1) := by decide +kernel
theorem dD_init_106 : decode mD_init.2.1 106 = .ok (.new 40, 3) := by decide +kernel
theorem dD_init_109 : decode mD_init.2.1 109 = .ok (.dup, 1) := by decide +kernel
theorem dD_init_110 : decode mD_init.2.1 110 = .ok (.invokespecial 60, 3) := by decide +kernel
theorem dD_init_113 : decode mD_init.2.1 113 = .ok (.aastore, 1) := by decide +kernel
theorem dD_init_114 : decode mD_init.2.1 114 = .ok (.iinc 1 1, 3) := by decide +kernel
theorem dD_init_117 : decode mD_init.2.1 117 = .ok (.goto (-21), 3) := by decide +kernel
theorem dD_init_120 : decode mD_init.2.1 120 = .ok (.return_, 1) := by decide +kernel
theorem dD_holds_0 : decode mD_holds.2.1 0 = .ok (.iload_n 0, 1) := by decide +kernel
theorem dD_holds_1 : decode mD_holds.2.1 1 = .ok (.iload_n 1, 1) := by decide +kernel
theorem dD_holds_2 : decode mD_holds.2.1 2 = .ok (.ishr, 1) := by decide +kernel
theorem dD_holds_3 : decode mD_holds.2.1 3 = .ok (.iconst 1, 1) := by decide +kernel
theorem dD_holds_4 : decode mD_holds.2.1 4 = .ok (.iand, 1) := by decide +kernel
theorem dD_holds_5 : decode mD_holds.2.1 5 = .ok (.ifCond .eq 7, 3) := by decide +kernel
theorem dD_holds_8 : decode mD_holds.2.1 8 = .ok (.iconst 1, 1) := by decide +kernel
theorem dD_holds_9 : decode mD_holds.2.1 9 = .ok (.goto 4, 3) := by decide +kernel
theorem dD_holds_12 : decode mD_holds.2.1 12 = .ok (.iconst 0, 1) := by decide +kernel
theorem dD_holds_13 : decode mD_holds.2.1 13 = .ok (.ireturn, 1) := by decide +kernel
theorem dD_work_0 : decode mD_work.2.1 0 = .ok (.iload_n 1, 1) := by decide +kernel
theorem dD_work_1 : decode mD_work.2.1 1 = .ok (.invokestatic 61, 3) := by decide +kernel
theorem dD_work_4 : decode mD_work.2.1 4 = .ok (.ifCond .eq 13, 3) := by decide +kernel
theorem dD_work_7 : decode mD_work.2.1 7 = .ok (.iload_n 2, 1) := by decide +kernel
theorem dD_work_8 : decode mD_work.2.1 8 = .ok (.iconst 1, 1) := by decide +kernel
theorem dD_work_9 : decode mD_work.2.1 9 = .ok (.bipush 40, 2) := by decide +kernel
theorem dD_work_11 : decode mD_work.2.1 11 = .ok (.invokestatic 65, 3) := by decide +kernel
theorem dD_work_14 : decode mD_work.2.1 14 = .ok (.ifCond .ne 10, 3) := by decide +kernel
theorem dD_work_17 : decode mD_work.2.1 17 = .ok (.aload_n 0, 1) := by decide +kernel
theorem dD_work_18 : decode mD_work.2.1 18 = .ok (.ldc 69, 2) := by decide +kernel
theorem dD_work_20 : decode mD_work.2.1 20 = .ok (.invokevirtual 70, 3) := by decide +kernel
theorem dD_work_23 : decode mD_work.2.1 23 = .ok (.ireturn, 1) := by decide +kernel
theorem dD_work_24 : decode mD_work.2.1 24 = .ok (.aload_n 0, 1) := by decide +kernel
theorem dD_work_25 : decode mD_work.2.1 25 = .ok (.getfield 12, 3) := by decide +kernel
theorem dD_work_28 : decode mD_work.2.1 28 = .ok (.getfield 74, 3) := by decide +kernel
theorem dD_work_31 : decode mD_work.2.1 31 = .ok (.getfield 78, 3) := by decide +kernel
theorem dD_work_34 : decode mD_work.2.1 34 = .ok (.bipush 16, 2) := by decide +kernel
theorem dD_work_36 : decode mD_work.2.1 36 = .ok (.if_icmp .lt 10, 3) := by decide +kernel
theorem dD_work_39 : decode mD_work.2.1 39 = .ok (.aload_n 0, 1) := by decide +kernel
theorem dD_work_40 : decode mD_work.2.1 40 = .ok (.ldc 83, 2) := by decide +kernel
theorem dD_work_42 : decode mD_work.2.1 42 = .ok (.invokevirtual 70, 3) := by decide +kernel
theorem dD_work_45 : decode mD_work.2.1 45 = .ok (.ireturn, 1) := by decide +kernel
theorem dD_work_46 : decode mD_work.2.1 46 = .ok (.aload_n 0, 1) := by decide +kernel
theorem dD_work_47 : decode mD_work.2.1 47 = .ok (.getfield 12, 3) := by decide +kernel
theorem dD_work_50 : decode mD_work.2.1 50 = .ok (.getfield 74, 3) := by decide +kernel
theorem dD_work_53 : decode mD_work.2.1 53 = .ok (.iload_n 1, 1) := by decide +kernel
theorem dD_work_54 : decode mD_work.2.1 54 = .ok (.iload_n 2, 1) := by decide +kernel
theorem dD_work_55 : decode mD_work.2.1 55 = .ok (.invokevirtual 84, 3) := by decide +kernel
theorem dD_work_58 : decode mD_work.2.1 58 = .ok (.ireturn, 1) := by decide +kernel
theorem dD_isKind_0 : decode mD_isKind.2.1 0 = .ok (.iload_n 0, 1) := by decide +kernel
theorem dD_isKind_1 : decode mD_isKind.2.1 1 = .ok (.iconst 0, 1) := by decide +kernel
theorem dD_isKind_2 : decode mD_isKind.2.1 2 = .ok (.iconst 5, 1) := by decide +kernel
theorem dD_isKind_3 : decode mD_isKind.2.1 3 = .ok (.invokestatic 65, 3) := by decide +kernel
theorem dD_isKind_6 : decode mD_isKind.2.1 6 = .ok (.ireturn, 1) := by decide +kernel
theorem dD_within_0 : decode mD_within.2.1 0 = .ok (.iload_n 0, 1) := by decide +kernel
theorem dD_within_1 : decode mD_within.2.1 1 = .ok (.iload_n 1, 1) := by decide +kernel
theorem dD_within_2 : decode mD_within.2.1 2 = .ok (.if_icmp .lt 12, 3) := by decide +kernel
theorem dD_within_5 : decode mD_within.2.1 5 = .ok (.iload_n 0, 1) := by decide +kernel
theorem dD_within_6 : decode mD_within.2.1 6 = .ok (.iload_n 2, 1) := by decide +kernel
theorem dD_within_7 : decode mD_within.2.1 7 = .ok (.if_icmp .gt 7, 3) := by decide +kernel
theorem dD_within_10 : decode mD_within.2.1 10 = .ok (.iconst 1, 1) := by decide +kernel
theorem dD_within_11 : decode mD_within.2.1 11 = .ok (.goto 4, 3) := by decide +kernel
theorem dD_within_14 : decode mD_within.2.1 14 = .ok (.iconst 0, 1) := by decide +kernel
theorem dD_within_15 : decode mD_within.2.1 15 = .ok (.ireturn, 1) := by decide +kernel
theorem dD_finding_0 : decode mD_finding.2.1 0 = .ok (.ldc_w 344, 3) := by decide +kernel
theorem dD_finding_3 : decode mD_finding.2.1 3 = .ok (.iload_n 1, 1) := by decide +kernel
theorem dD_finding_4 : decode mD_finding.2.1 4 = .ok (.isub, 1) := by decide +kernel
theorem dD_finding_5 : decode mD_finding.2.1 5 = .ok (.istore_n 2, 1) := by decide +kernel
theorem dD_finding_6 : decode mD_finding.2.1 6 = .ok (.iload_n 2, 1) := by decide +kernel
theorem dD_finding_7 : decode mD_finding.2.1 7 = .ok (.iconst 1, 1) := by decide +kernel
theorem dD_finding_8 : decode mD_finding.2.1 8 = .ok (.iconst 5, 1) := by decide +kernel
theorem dD_finding_9 : decode mD_finding.2.1 9 = .ok (.invokestatic 65, 3) := by decide +kernel
theorem dD_finding_12 : decode mD_finding.2.1 12 = .ok (.ifCond .eq 13, 3) := by decide +kernel
theorem dD_finding_15 : decode mD_finding.2.1 15 = .ok (.aload_n 0, 1) := by decide +kernel
theorem dD_finding_16 : decode mD_finding.2.1 16 = .ok (.getfield 46, 3) := by decide +kernel
theorem dD_finding_19 : decode mD_finding.2.1 19 = .ok (.iload_n 2, 1) := by decide +kernel
theorem dD_finding_20 : decode mD_finding.2.1 20 = .ok (.dup2, 1) := by decide +kernel
theorem dD_finding_21 : decode mD_finding.2.1 21 = .ok (.iaload, 1) := by decide +kernel
theorem dD_finding_22 : decode mD_finding.2.1 22 = .ok (.iconst 1, 1) := by decide +kernel
theorem dD_finding_23 : decode mD_finding.2.1 23 = .ok (.iadd, 1) := by decide +kernel
theorem dD_finding_24 : decode mD_finding.2.1 24 = .ok (.iastore, 1) := by decide +kernel
theorem dD_finding_25 : decode mD_finding.2.1 25 = .ok (.iload_n 1, 1) := by decide +kernel
theorem dD_finding_26 : decode mD_finding.2.1 26 = .ok (.ireturn, 1) := by decide +kernel
theorem dD_as_0 : decode mD_as.2.1 0 = .ok (.aload_n 0, 1) := by decide +kernel
theorem dD_as_1 : decode mD_as.2.1 1 = .ok (.getfield 12, 3) := by decide +kernel
theorem dD_as_4 : decode mD_as.2.1 4 = .ok (.getfield 74, 3) := by decide +kernel
theorem dD_as_7 : decode mD_as.2.1 7 = .ok (.astore_n 3, 1) := by decide +kernel
theorem dD_as_8 : decode mD_as.2.1 8 = .ok (.aload_n 3, 1) := by decide +kernel
theorem dD_as_9 : decode mD_as.2.1 9 = .ok (.iload_n 1, 1) := by decide +kernel
theorem dD_as_10 : decode mD_as.2.1 10 = .ok (.invokevirtual 88, 3) := by decide +kernel
theorem dD_as_13 : decode mD_as.2.1 13 = .ok (.ifCond .eq 10, 3) := by decide +kernel
theorem dD_as_16 : decode mD_as.2.1 16 = .ok (.iload_n 2, 1) := by decide +kernel
theorem dD_as_17 : decode mD_as.2.1 17 = .ok (.invokestatic 61, 3) := by decide +kernel
theorem dD_as_20 : decode mD_as.2.1 20 = .ok (.ifCond .ne 10, 3) := by decide +kernel
theorem dD_as_23 : decode mD_as.2.1 23 = .ok (.aload_n 0, 1) := by decide +kernel
theorem dD_as_24 : decode mD_as.2.1 24 = .ok (.ldc 69, 2) := by decide +kernel
theorem dD_as_26 : decode mD_as.2.1 26 = .ok (.invokevirtual 70, 3) := by decide +kernel
theorem dD_as_29 : decode mD_as.2.1 29 = .ok (.ireturn, 1) := by decide +kernel
theorem dD_as_30 : decode mD_as.2.1 30 = .ok (.aload_n 3, 1) := by decide +kernel
theorem dD_as_31 : decode mD_as.2.1 31 = .ok (.getfield 91, 3) := by decide +kernel
theorem dD_as_34 : decode mD_as.2.1 34 = .ok (.iload_n 1, 1) := by decide +kernel
theorem dD_as_35 : decode mD_as.2.1 35 = .ok (.iaload, 1) := by decide +kernel
theorem dD_as_36 : decode mD_as.2.1 36 = .ok (.iload_n 2, 1) := by decide +kernel
theorem dD_as_37 : decode mD_as.2.1 37 = .ok (.invokestatic 94, 3) := by decide +kernel
theorem dD_as_40 : decode mD_as.2.1 40 = .ok (.ifCond .ne 10, 3) := by decide +kernel
theorem dD_as_43 : decode mD_as.2.1 43 = .ok (.aload_n 0, 1) := by decide +kernel
theorem dD_as_44 : decode mD_as.2.1 44 = .ok (.ldc 98, 2) := by decide +kernel
theorem dD_as_46 : decode mD_as.2.1 46 = .ok (.invokevirtual 70, 3) := by decide +kernel
theorem dD_as_49 : decode mD_as.2.1 49 = .ok (.ireturn, 1) := by decide +kernel
theorem dD_as_50 : decode mD_as.2.1 50 = .ok (.aload_n 3, 1) := by decide +kernel
theorem dD_as_51 : decode mD_as.2.1 51 = .ok (.getfield 99, 3) := by decide +kernel
theorem dD_as_54 : decode mD_as.2.1 54 = .ok (.iload_n 1, 1) := by decide +kernel
theorem dD_as_55 : decode mD_as.2.1 55 = .ok (.iaload, 1) := by decide +kernel
theorem dD_as_56 : decode mD_as.2.1 56 = .ok (.ireturn, 1) := by decide +kernel
theorem dD_isUnder_0 : decode mD_isUnder.2.1 0 = .ok (.iload_n 0, 1) := by decide +kernel
theorem dD_isUnder_1 : decode mD_isUnder.2.1 1 = .ok (.istore_n 2, 1) := by decide +kernel
theorem dD_isUnder_2 : decode mD_isUnder.2.1 2 = .ok (.iconst 0, 1) := by decide +kernel
theorem dD_isUnder_3 : decode mD_isUnder.2.1 3 = .ok (.istore_n 3, 1) := by decide +kernel
theorem dD_isUnder_4 : decode mD_isUnder.2.1 4 = .ok (.iload_n 3, 1) := by decide +kernel
theorem dD_isUnder_5 : decode mD_isUnder.2.1 5 = .ok (.bipush 6, 2) := by decide +kernel
theorem dD_isUnder_7 : decode mD_isUnder.2.1 7 = .ok (.if_icmp .ge 29, 3) := by decide +kernel
theorem dD_isUnder_10 : decode mD_isUnder.2.1 10 = .ok (.iload_n 2, 1) := by decide +kernel
theorem dD_isUnder_11 : decode mD_isUnder.2.1 11 = .ok (.invokestatic 61, 3) := by decide +kernel
theorem dD_isUnder_14 : decode mD_isUnder.2.1 14 = .ok (.ifCond .eq 22, 3) := by decide +kernel
theorem dD_isUnder_17 : decode mD_isUnder.2.1 17 = .ok (.iload_n 2, 1) := by decide +kernel
theorem dD_isUnder_18 : decode mD_isUnder.2.1 18 = .ok (.iload_n 1, 1) := by decide +kernel
theorem dD_isUnder_19 : decode mD_isUnder.2.1 19 = .ok (.if_icmp .ne 5, 3) := by decide +kernel
theorem dD_isUnder_22 : decode mD_isUnder.2.1 22 = .ok (.iconst 1, 1) := by decide +kernel
theorem dD_isUnder_23 : decode mD_isUnder.2.1 23 = .ok (.ireturn, 1) := by decide +kernel
theorem dD_isUnder_24 : decode mD_isUnder.2.1 24 = .ok (.getstatic 345, 3) := by decide +kernel
theorem dD_isUnder_27 : decode mD_isUnder.2.1 27 = .ok (.iload_n 2, 1) := by decide +kernel
theorem dD_isUnder_28 : decode mD_isUnder.2.1 28 = .ok (.iaload, 1) := by decide +kernel
theorem dD_isUnder_29 : decode mD_isUnder.2.1 29 = .ok (.istore_n 2, 1) := by decide +kernel
theorem dD_isUnder_30 : decode mD_isUnder.2.1 30 = .ok (.iinc 3 1, 3) := by decide +kernel
theorem dD_isUnder_33 : decode mD_isUnder.2.1 33 = .ok (.goto (-29), 3) := by decide +kernel
theorem dD_isUnder_36 : decode mD_isUnder.2.1 36 = .ok (.iconst 0, 1) := by decide +kernel
theorem dD_isUnder_37 : decode mD_isUnder.2.1 37 = .ok (.ireturn, 1) := by decide +kernel
theorem dD_edit_0 : decode mD_edit.2.1 0 = .ok (.aload_n 0, 1) := by decide +kernel
theorem dD_edit_1 : decode mD_edit.2.1 1 = .ok (.getfield 12, 3) := by decide +kernel
theorem dD_edit_4 : decode mD_edit.2.1 4 = .ok (.getfield 74, 3) := by decide +kernel
theorem dD_edit_7 : decode mD_edit.2.1 7 = .ok (.astore_n 3, 1) := by decide +kernel
theorem dD_edit_8 : decode mD_edit.2.1 8 = .ok (.aload_n 3, 1) := by decide +kernel
theorem dD_edit_9 : decode mD_edit.2.1 9 = .ok (.iload_n 1, 1) := by decide +kernel
theorem dD_edit_10 : decode mD_edit.2.1 10 = .ok (.invokevirtual 88, 3) := by decide +kernel
theorem dD_edit_13 : decode mD_edit.2.1 13 = .ok (.ifCond .eq 13, 3) := by decide +kernel
theorem dD_edit_16 : decode mD_edit.2.1 16 = .ok (.iload_n 2, 1) := by decide +kernel
theorem dD_edit_17 : decode mD_edit.2.1 17 = .ok (.iconst 1, 1) := by decide +kernel
theorem dD_edit_18 : decode mD_edit.2.1 18 = .ok (.bipush 40, 2) := by decide +kernel
theorem dD_edit_20 : decode mD_edit.2.1 20 = .ok (.invokestatic 65, 3) := by decide +kernel
theorem dD_edit_23 : decode mD_edit.2.1 23 = .ok (.ifCond .ne 10, 3) := by decide +kernel
theorem dD_edit_26 : decode mD_edit.2.1 26 = .ok (.aload_n 0, 1) := by decide +kernel
theorem dD_edit_27 : decode mD_edit.2.1 27 = .ok (.ldc 69, 2) := by decide +kernel
theorem dD_edit_29 : decode mD_edit.2.1 29 = .ok (.invokevirtual 70, 3) := by decide +kernel
theorem dD_edit_32 : decode mD_edit.2.1 32 = .ok (.ireturn, 1) := by decide +kernel
theorem dD_edit_33 : decode mD_edit.2.1 33 = .ok (.aload_n 0, 1) := by decide +kernel
theorem dD_edit_34 : decode mD_edit.2.1 34 = .ok (.getfield 12, 3) := by decide +kernel
theorem dD_edit_37 : decode mD_edit.2.1 37 = .ok (.getfield 102, 3) := by decide +kernel
theorem dD_edit_40 : decode mD_edit.2.1 40 = .ok (.iload_n 1, 1) := by decide +kernel
theorem dD_edit_41 : decode mD_edit.2.1 41 = .ok (.invokevirtual 106, 3) := by decide +kernel
theorem dD_edit_44 : decode mD_edit.2.1 44 = .ok (.iload_n 2, 1) := by decide +kernel
theorem dD_edit_45 : decode mD_edit.2.1 45 = .ok (.if_icmp .lt 10, 3) := by decide +kernel
theorem dD_edit_48 : decode mD_edit.2.1 48 = .ok (.aload_n 0, 1) := by decide +kernel
theorem dD_edit_49 : decode mD_edit.2.1 49 = .ok (.ldc 111, 2) := by decide +kernel
theorem dD_edit_51 : decode mD_edit.2.1 51 = .ok (.invokevirtual 70, 3) := by decide +kernel
theorem dD_edit_54 : decode mD_edit.2.1 54 = .ok (.ireturn, 1) := by decide +kernel
theorem dD_edit_55 : decode mD_edit.2.1 55 = .ok (.aload_n 3, 1) := by decide +kernel
theorem dD_edit_56 : decode mD_edit.2.1 56 = .ok (.getfield 99, 3) := by decide +kernel
theorem dD_edit_59 : decode mD_edit.2.1 59 = .ok (.iload_n 1, 1) := by decide +kernel
theorem dD_edit_60 : decode mD_edit.2.1 60 = .ok (.iaload, 1) := by decide +kernel
theorem dD_edit_61 : decode mD_edit.2.1 61 = .ok (.istore 4, 2) := by decide +kernel
theorem dD_edit_63 : decode mD_edit.2.1 63 = .ok (.aload_n 3, 1) := by decide +kernel
theorem dD_edit_64 : decode mD_edit.2.1 64 = .ok (.getfield 99, 3) := by decide +kernel
theorem dD_edit_67 : decode mD_edit.2.1 67 = .ok (.iload_n 1, 1) := by decide +kernel
theorem dD_edit_68 : decode mD_edit.2.1 68 = .ok (.iload_n 2, 1) := by decide +kernel
theorem dD_edit_69 : decode mD_edit.2.1 69 = .ok (.iastore, 1) := by decide +kernel
theorem dD_edit_70 : decode mD_edit.2.1 70 = .ok (.iload 4, 2) := by decide +kernel
theorem dD_edit_72 : decode mD_edit.2.1 72 = .ok (.ireturn, 1) := by decide +kernel
theorem dD_link_0 : decode mD_link.2.1 0 = .ok (.aload_n 0, 1) := by decide +kernel
theorem dD_link_1 : decode mD_link.2.1 1 = .ok (.getfield 12, 3) := by decide +kernel
theorem dD_link_4 : decode mD_link.2.1 4 = .ok (.getfield 74, 3) := by decide +kernel
theorem dD_link_7 : decode mD_link.2.1 7 = .ok (.astore 4, 2) := by decide +kernel
theorem dD_link_9 : decode mD_link.2.1 9 = .ok (.aload 4, 2) := by decide +kernel
theorem dD_link_11 : decode mD_link.2.1 11 = .ok (.iload_n 1, 1) := by decide +kernel
theorem dD_link_12 : decode mD_link.2.1 12 = .ok (.invokevirtual 88, 3) := by decide +kernel
theorem dD_link_15 : decode mD_link.2.1 15 = .ok (.ifCond .eq 27, 3) := by decide +kernel
theorem dD_link_18 : decode mD_link.2.1 18 = .ok (.aload 4, 2) := by decide +kernel
theorem dD_link_20 : decode mD_link.2.1 20 = .ok (.iload_n 2, 1) := by decide +kernel
theorem dD_link_21 : decode mD_link.2.1 21 = .ok (.invokevirtual 88, 3) := by decide +kernel
theorem dD_link_24 : decode mD_link.2.1 24 = .ok (.ifCond .eq 18, 3) := by decide +kernel
theorem dD_link_27 : decode mD_link.2.1 27 = .ok (.iload_n 1, 1) := by decide +kernel
theorem dD_link_28 : decode mD_link.2.1 28 = .ok (.iload_n 2, 1) := by decide +kernel
theorem dD_link_29 : decode mD_link.2.1 29 = .ok (.if_icmp .eq 13, 3) := by decide +kernel
theorem dD_link_32 : decode mD_link.2.1 32 = .ok (.iload_n 3, 1) := by decide +kernel
theorem dD_link_33 : decode mD_link.2.1 33 = .ok (.iconst 0, 1) := by decide +kernel
theorem dD_link_34 : decode mD_link.2.1 34 = .ok (.bipush 20, 2) := by decide +kernel
theorem dD_link_36 : decode mD_link.2.1 36 = .ok (.invokestatic 65, 3) := by decide +kernel
theorem dD_link_39 : decode mD_link.2.1 39 = .ok (.ifCond .ne 10, 3) := by decide +kernel
theorem dD_link_42 : decode mD_link.2.1 42 = .ok (.aload_n 0, 1) := by decide +kernel
theorem dD_link_43 : decode mD_link.2.1 43 = .ok (.ldc 69, 2) := by decide +kernel
theorem dD_link_45 : decode mD_link.2.1 45 = .ok (.invokevirtual 70, 3) := by decide +kernel
theorem dD_link_48 : decode mD_link.2.1 48 = .ok (.ireturn, 1) := by decide +kernel
theorem dD_link_49 : decode mD_link.2.1 49 = .ok (.aload 4, 2) := by decide +kernel
theorem dD_link_51 : decode mD_link.2.1 51 = .ok (.iload_n 1, 1) := by decide +kernel
theorem dD_link_52 : decode mD_link.2.1 52 = .ok (.iload_n 2, 1) := by decide +kernel
theorem dD_link_53 : decode mD_link.2.1 53 = .ok (.invokevirtual 112, 3) := by decide +kernel
theorem dD_link_56 : decode mD_link.2.1 56 = .ok (.ifCond .ne 13, 3) := by decide +kernel
theorem dD_link_59 : decode mD_link.2.1 59 = .ok (.aload 4, 2) := by decide +kernel
theorem dD_link_61 : decode mD_link.2.1 61 = .ok (.iload_n 2, 1) := by decide +kernel
theorem dD_link_62 : decode mD_link.2.1 62 = .ok (.iload_n 1, 1) := by decide +kernel
theorem dD_link_63 : decode mD_link.2.1 63 = .ok (.invokevirtual 115, 3) := by decide +kernel
theorem dD_link_66 : decode mD_link.2.1 66 = .ok (.ifCond .eq 10, 3) := by decide +kernel
theorem dD_link_69 : decode mD_link.2.1 69 = .ok (.aload_n 0, 1) := by decide +kernel
theorem dD_link_70 : decode mD_link.2.1 70 = .ok (.ldc 111, 2) := by decide +kernel
theorem dD_link_72 : decode mD_link.2.1 72 = .ok (.invokevirtual 70, 3) := by decide +kernel
theorem dD_link_75 : decode mD_link.2.1 75 = .ok (.ireturn, 1) := by decide +kernel
theorem dD_link_76 : decode mD_link.2.1 76 = .ok (.aload 4, 2) := by decide +kernel
theorem dD_link_78 : decode mD_link.2.1 78 = .ok (.getfield 118, 3) := by decide +kernel
theorem dD_link_81 : decode mD_link.2.1 81 = .ok (.bipush 30, 2) := by decide +kernel
theorem dD_link_83 : decode mD_link.2.1 83 = .ok (.if_icmp .lt 10, 3) := by decide +kernel
theorem dD_link_86 : decode mD_link.2.1 86 = .ok (.aload_n 0, 1) := by decide +kernel
theorem dD_link_87 : decode mD_link.2.1 87 = .ok (.ldc 83, 2) := by decide +kernel
theorem dD_link_89 : decode mD_link.2.1 89 = .ok (.invokevirtual 70, 3) := by decide +kernel
theorem dD_link_92 : decode mD_link.2.1 92 = .ok (.ireturn, 1) := by decide +kernel
theorem dD_link_93 : decode mD_link.2.1 93 = .ok (.aload 4, 2) := by decide +kernel
theorem dD_link_95 : decode mD_link.2.1 95 = .ok (.iload_n 1, 1) := by decide +kernel
theorem dD_link_96 : decode mD_link.2.1 96 = .ok (.iload_n 2, 1) := by decide +kernel
theorem dD_link_97 : decode mD_link.2.1 97 = .ok (.iload_n 3, 1) := by decide +kernel
theorem dD_link_98 : decode mD_link.2.1 98 = .ok (.invokevirtual 121, 3) := by decide +kernel
theorem dD_link_101 : decode mD_link.2.1 101 = .ok (.ireturn, 1) := by decide +kernel
theorem dD_unlink_0 : decode mD_unlink.2.1 0 = .ok (.aload_n 0, 1) := by decide +kernel
theorem dD_unlink_1 : decode mD_unlink.2.1 1 = .ok (.getfield 12, 3) := by decide +kernel
theorem dD_unlink_4 : decode mD_unlink.2.1 4 = .ok (.getfield 74, 3) := by decide +kernel
theorem dD_unlink_7 : decode mD_unlink.2.1 7 = .ok (.astore_n 3, 1) := by decide +kernel
theorem dD_unlink_8 : decode mD_unlink.2.1 8 = .ok (.aload_n 3, 1) := by decide +kernel
theorem dD_unlink_9 : decode mD_unlink.2.1 9 = .ok (.iload_n 1, 1) := by decide +kernel
theorem dD_unlink_10 : decode mD_unlink.2.1 10 = .ok (.invokevirtual 88, 3) := by decide +kernel
theorem dD_unlink_13 : decode mD_unlink.2.1 13 = .ok (.ifCond .eq 11, 3) := by decide +kernel
theorem dD_unlink_16 : decode mD_unlink.2.1 16 = .ok (.aload_n 3, 1) := by decide +kernel
theorem dD_unlink_17 : decode mD_unlink.2.1 17 = .ok (.iload_n 2, 1) := by decide +kernel
theorem dD_unlink_18 : decode mD_unlink.2.1 18 = .ok (.invokevirtual 88, 3) := by decide +kernel
theorem dD_unlink_21 : decode mD_unlink.2.1 21 = .ok (.ifCond .ne 10, 3) := by decide +kernel
theorem dD_unlink_24 : decode mD_unlink.2.1 24 = .ok (.aload_n 0, 1) := by decide +kernel
theorem dD_unlink_25 : decode mD_unlink.2.1 25 = .ok (.ldc 69, 2) := by decide +kernel
theorem dD_unlink_27 : decode mD_unlink.2.1 27 = .ok (.invokevirtual 70, 3) := by decide +kernel
theorem dD_unlink_30 : decode mD_unlink.2.1 30 = .ok (.ireturn, 1) := by decide +kernel
theorem dD_unlink_31 : decode mD_unlink.2.1 31 = .ok (.aload_n 3, 1) := by decide +kernel
theorem dD_unlink_32 : decode mD_unlink.2.1 32 = .ok (.iload_n 1, 1) := by decide +kernel
theorem dD_unlink_33 : decode mD_unlink.2.1 33 = .ok (.iload_n 2, 1) := by decide +kernel
theorem dD_unlink_34 : decode mD_unlink.2.1 34 = .ok (.invokevirtual 112, 3) := by decide +kernel
theorem dD_unlink_37 : decode mD_unlink.2.1 37 = .ok (.ifCond .ne 10, 3) := by decide +kernel
theorem dD_unlink_40 : decode mD_unlink.2.1 40 = .ok (.aload_n 0, 1) := by decide +kernel
theorem dD_unlink_41 : decode mD_unlink.2.1 41 = .ok (.ldc 125, 2) := by decide +kernel
theorem dD_unlink_43 : decode mD_unlink.2.1 43 = .ok (.invokevirtual 70, 3) := by decide +kernel
theorem dD_unlink_46 : decode mD_unlink.2.1 46 = .ok (.ireturn, 1) := by decide +kernel
theorem dD_unlink_47 : decode mD_unlink.2.1 47 = .ok (.aload_n 3, 1) := by decide +kernel
theorem dD_unlink_48 : decode mD_unlink.2.1 48 = .ok (.iload_n 1, 1) := by decide +kernel
theorem dD_unlink_49 : decode mD_unlink.2.1 49 = .ok (.iload_n 2, 1) := by decide +kernel
theorem dD_unlink_50 : decode mD_unlink.2.1 50 = .ok (.invokevirtual 126, 3) := by decide +kernel
theorem dD_unlink_53 : decode mD_unlink.2.1 53 = .ok (.ireturn, 1) := by decide +kernel
theorem dD_week_0 : decode mD_week.2.1 0 = .ok (.iload_n 1, 1) := by decide +kernel
theorem dD_week_1 : decode mD_week.2.1 1 = .ok (.iconst 1, 1) := by decide +kernel
theorem dD_week_2 : decode mD_week.2.1 2 = .ok (.bipush 127, 2) := by decide +kernel
theorem dD_week_4 : decode mD_week.2.1 4 = .ok (.invokestatic 65, 3) := by decide +kernel
theorem dD_week_7 : decode mD_week.2.1 7 = .ok (.ifCond .ne 10, 3) := by decide +kernel
theorem dD_week_10 : decode mD_week.2.1 10 = .ok (.aload_n 0, 1) := by decide +kernel
theorem dD_week_11 : decode mD_week.2.1 11 = .ok (.ldc 69, 2) := by decide +kernel
theorem dD_week_13 : decode mD_week.2.1 13 = .ok (.invokevirtual 70, 3) := by decide +kernel
theorem dD_week_16 : decode mD_week.2.1 16 = .ok (.ireturn, 1) := by decide +kernel
theorem dD_week_17 : decode mD_week.2.1 17 = .ok (.aload_n 0, 1) := by decide +kernel
theorem dD_week_18 : decode mD_week.2.1 18 = .ok (.getfield 12, 3) := by decide +kernel
theorem dD_week_21 : decode mD_week.2.1 21 = .ok (.getfield 129, 3) := by decide +kernel
theorem dD_week_24 : decode mD_week.2.1 24 = .ok (.iload_n 1, 1) := by decide +kernel
theorem dD_week_25 : decode mD_week.2.1 25 = .ok (.invokevirtual 133, 3) := by decide +kernel
theorem dD_week_28 : decode mD_week.2.1 28 = .ok (.ireturn, 1) := by decide +kernel
theorem dD_rain_0 : decode mD_rain.2.1 0 = .ok (.iload_n 2, 1) := by decide +kernel
theorem dD_rain_1 : decode mD_rain.2.1 1 = .ok (.iconst 1, 1) := by decide +kernel
theorem dD_rain_2 : decode mD_rain.2.1 2 = .ok (.bipush 60, 2) := by decide +kernel
theorem dD_rain_4 : decode mD_rain.2.1 4 = .ok (.invokestatic 65, 3) := by decide +kernel
theorem dD_rain_7 : decode mD_rain.2.1 7 = .ok (.ifCond .eq 16, 3) := by decide +kernel
theorem dD_rain_10 : decode mD_rain.2.1 10 = .ok (.iload_n 1, 1) := by decide +kernel
theorem dD_rain_11 : decode mD_rain.2.1 11 = .ok (.iconst 0, 1) := by decide +kernel
theorem dD_rain_12 : decode mD_rain.2.1 12 = .ok (.sipush 900, 3) := by decide +kernel
theorem dD_rain_15 : decode mD_rain.2.1 15 = .ok (.iload_n 2, 1) := by decide +kernel
theorem dD_rain_16 : decode mD_rain.2.1 16 = .ok (.isub, 1) := by decide +kernel
theorem dD_rain_17 : decode mD_rain.2.1 17 = .ok (.invokestatic 65, 3) := by decide +kernel
theorem dD_rain_20 : decode mD_rain.2.1 20 = .ok (.ifCond .ne 10, 3) := by decide +kernel
theorem dD_rain_23 : decode mD_rain.2.1 23 = .ok (.aload_n 0, 1) := by decide +kernel
theorem dD_rain_24 : decode mD_rain.2.1 24 = .ok (.ldc 69, 2) := by decide +kernel
theorem dD_rain_26 : decode mD_rain.2.1 26 = .ok (.invokevirtual 70, 3) := by decide +kernel
theorem dD_rain_29 : decode mD_rain.2.1 29 = .ok (.ireturn, 1) := by decide +kernel
theorem dD_rain_30 : decode mD_rain.2.1 30 = .ok (.aload_n 0, 1) := by decide +kernel
theorem dD_rain_31 : decode mD_rain.2.1 31 = .ok (.getfield 12, 3) := by decide +kernel
theorem dD_rain_34 : decode mD_rain.2.1 34 = .ok (.getfield 129, 3) := by decide +kernel
theorem dD_rain_37 : decode mD_rain.2.1 37 = .ok (.iload_n 1, 1) := by decide +kernel
theorem dD_rain_38 : decode mD_rain.2.1 38 = .ok (.iload_n 2, 1) := by decide +kernel
theorem dD_rain_39 : decode mD_rain.2.1 39 = .ok (.iload_n 3, 1) := by decide +kernel
theorem dD_rain_40 : decode mD_rain.2.1 40 = .ok (.invokevirtual 138, 3) := by decide +kernel
theorem dD_rain_43 : decode mD_rain.2.1 43 = .ok (.ireturn, 1) := by decide +kernel
theorem dD_today_0 : decode mD_today.2.1 0 = .ok (.iload_n 1, 1) := by decide +kernel
theorem dD_today_1 : decode mD_today.2.1 1 = .ok (.aload_n 0, 1) := by decide +kernel
theorem dD_today_2 : decode mD_today.2.1 2 = .ok (.getfield 12, 3) := by decide +kernel
theorem dD_today_5 : decode mD_today.2.1 5 = .ok (.getfield 142, 3) := by decide +kernel
theorem dD_today_8 : decode mD_today.2.1 8 = .ok (.sipush 900, 3) := by decide +kernel
theorem dD_today_11 : decode mD_today.2.1 11 = .ok (.invokestatic 65, 3) := by decide +kernel
theorem dD_today_14 : decode mD_today.2.1 14 = .ok (.ifCond .ne 10, 3) := by decide +kernel
theorem dD_today_17 : decode mD_today.2.1 17 = .ok (.aload_n 0, 1) := by decide +kernel
theorem dD_today_18 : decode mD_today.2.1 18 = .ok (.ldc 69, 2) := by decide +kernel
theorem dD_today_20 : decode mD_today.2.1 20 = .ok (.invokevirtual 70, 3) := by decide +kernel
theorem dD_today_23 : decode mD_today.2.1 23 = .ok (.ireturn, 1) := by decide +kernel
theorem dD_today_24 : decode mD_today.2.1 24 = .ok (.aload_n 0, 1) := by decide +kernel
theorem dD_today_25 : decode mD_today.2.1 25 = .ok (.getfield 12, 3) := by decide +kernel
theorem dD_today_28 : decode mD_today.2.1 28 = .ok (.getfield 142, 3) := by decide +kernel
theorem dD_today_31 : decode mD_today.2.1 31 = .ok (.istore_n 2, 1) := by decide +kernel
theorem dD_today_32 : decode mD_today.2.1 32 = .ok (.aload_n 0, 1) := by decide +kernel
theorem dD_today_33 : decode mD_today.2.1 33 = .ok (.getfield 12, 3) := by decide +kernel
theorem dD_today_36 : decode mD_today.2.1 36 = .ok (.iload_n 1, 1) := by decide +kernel
theorem dD_today_37 : decode mD_today.2.1 37 = .ok (.putfield 142, 3) := by decide +kernel
theorem dD_today_40 : decode mD_today.2.1 40 = .ok (.iload_n 2, 1) := by decide +kernel
theorem dD_today_41 : decode mD_today.2.1 41 = .ok (.ireturn, 1) := by decide +kernel
theorem dD_event_0 : decode mD_event.2.1 0 = .ok (.iload_n 1, 1) := by decide +kernel
theorem dD_event_1 : decode mD_event.2.1 1 = .ok (.ifCond .lt 34, 3) := by decide +kernel
theorem dD_event_4 : decode mD_event.2.1 4 = .ok (.aload_n 0, 1) := by decide +kernel
theorem dD_event_5 : decode mD_event.2.1 5 = .ok (.getfield 12, 3) := by decide +kernel
theorem dD_event_8 : decode mD_event.2.1 8 = .ok (.getfield 74, 3) := by decide +kernel
theorem dD_event_11 : decode mD_event.2.1 11 = .ok (.iload_n 1, 1) := by decide +kernel
theorem dD_event_12 : decode mD_event.2.1 12 = .ok (.bipush 10, 2) := by decide +kernel
theorem dD_event_14 : decode mD_event.2.1 14 = .ok (.idiv, 1) := by decide +kernel
theorem dD_event_15 : decode mD_event.2.1 15 = .ok (.invokevirtual 88, 3) := by decide +kernel
theorem dD_event_18 : decode mD_event.2.1 18 = .ok (.ifCond .eq 17, 3) := by decide +kernel
theorem dD_event_21 : decode mD_event.2.1 21 = .ok (.iload_n 1, 1) := by decide +kernel
theorem dD_event_22 : decode mD_event.2.1 22 = .ok (.bipush 10, 2) := by decide +kernel
theorem dD_event_24 : decode mD_event.2.1 24 = .ok (.irem, 1) := by decide +kernel
theorem dD_event_25 : decode mD_event.2.1 25 = .ok (.invokestatic 145, 3) := by decide +kernel
theorem dD_event_28 : decode mD_event.2.1 28 = .ok (.ifCond .eq 7, 3) := by decide +kernel
theorem dD_event_31 : decode mD_event.2.1 31 = .ok (.iconst 1, 1) := by decide +kernel
theorem dD_event_32 : decode mD_event.2.1 32 = .ok (.goto 4, 3) := by decide +kernel
theorem dD_event_35 : decode mD_event.2.1 35 = .ok (.iconst 0, 1) := by decide +kernel
theorem dD_event_36 : decode mD_event.2.1 36 = .ok (.istore 4, 2) := by decide +kernel
theorem dD_event_38 : decode mD_event.2.1 38 = .ok (.iload 4, 2) := by decide +kernel
theorem dD_event_40 : decode mD_event.2.1 40 = .ok (.ifCond .eq 28, 3) := by decide +kernel
theorem dD_event_43 : decode mD_event.2.1 43 = .ok (.iload_n 2, 1) := by decide +kernel
theorem dD_event_44 : decode mD_event.2.1 44 = .ok (.iconst 0, 1) := by decide +kernel
theorem dD_event_45 : decode mD_event.2.1 45 = .ok (.aload_n 0, 1) := by decide +kernel
theorem dD_event_46 : decode mD_event.2.1 46 = .ok (.getfield 12, 3) := by decide +kernel
theorem dD_event_49 : decode mD_event.2.1 49 = .ok (.getfield 142, 3) := by decide +kernel
theorem dD_event_52 : decode mD_event.2.1 52 = .ok (.invokestatic 65, 3) := by decide +kernel
theorem dD_event_55 : decode mD_event.2.1 55 = .ok (.ifCond .eq 13, 3) := by decide +kernel
theorem dD_event_58 : decode mD_event.2.1 58 = .ok (.iload_n 3, 1) := by decide +kernel
theorem dD_event_59 : decode mD_event.2.1 59 = .ok (.iconst 1, 1) := by decide +kernel
theorem dD_event_60 : decode mD_event.2.1 60 = .ok (.bipush 30, 2) := by decide +kernel
theorem dD_event_62 : decode mD_event.2.1 62 = .ok (.invokestatic 65, 3) := by decide +kernel
theorem dD_event_65 : decode mD_event.2.1 65 = .ok (.ifCond .ne 10, 3) := by decide +kernel
theorem dD_event_68 : decode mD_event.2.1 68 = .ok (.aload_n 0, 1) := by decide +kernel
theorem dD_event_69 : decode mD_event.2.1 69 = .ok (.ldc 69, 2) := by decide +kernel
theorem dD_event_71 : decode mD_event.2.1 71 = .ok (.invokevirtual 70, 3) := by decide +kernel
theorem dD_event_74 : decode mD_event.2.1 74 = .ok (.ireturn, 1) := by decide +kernel
theorem dD_event_75 : decode mD_event.2.1 75 = .ok (.aload_n 0, 1) := by decide +kernel
theorem dD_event_76 : decode mD_event.2.1 76 = .ok (.getfield 12, 3) := by decide +kernel
theorem dD_event_79 : decode mD_event.2.1 79 = .ok (.getfield 148, 3) := by decide +kernel
theorem dD_event_82 : decode mD_event.2.1 82 = .ok (.getfield 152, 3) := by decide +kernel
theorem dD_event_85 : decode mD_event.2.1 85 = .ok (.bipush 20, 2) := by decide +kernel
theorem dD_event_87 : decode mD_event.2.1 87 = .ok (.if_icmp .lt 10, 3) := by decide +kernel
theorem dD_event_90 : decode mD_event.2.1 90 = .ok (.aload_n 0, 1) := by decide +kernel
theorem dD_event_91 : decode mD_event.2.1 91 = .ok (.ldc 83, 2) := by decide +kernel
theorem dD_event_93 : decode mD_event.2.1 93 = .ok (.invokevirtual 70, 3) := by decide +kernel
theorem dD_event_96 : decode mD_event.2.1 96 = .ok (.ireturn, 1) := by decide +kernel
theorem dD_event_97 : decode mD_event.2.1 97 = .ok (.aload_n 0, 1) := by decide +kernel
theorem dD_event_98 : decode mD_event.2.1 98 = .ok (.getfield 12, 3) := by decide +kernel
theorem dD_event_101 : decode mD_event.2.1 101 = .ok (.getfield 148, 3) := by decide +kernel
theorem dD_event_104 : decode mD_event.2.1 104 = .ok (.iload_n 1, 1) := by decide +kernel
theorem dD_event_105 : decode mD_event.2.1 105 = .ok (.iload_n 2, 1) := by decide +kernel
theorem dD_event_106 : decode mD_event.2.1 106 = .ok (.iload_n 3, 1) := by decide +kernel
theorem dD_event_107 : decode mD_event.2.1 107 = .ok (.aload_n 0, 1) := by decide +kernel
theorem dD_event_108 : decode mD_event.2.1 108 = .ok (.getfield 12, 3) := by decide +kernel
theorem dD_event_111 : decode mD_event.2.1 111 = .ok (.getfield 142, 3) := by decide +kernel
theorem dD_event_114 : decode mD_event.2.1 114 = .ok (.invokevirtual 155, 3) := by decide +kernel
theorem dD_event_117 : decode mD_event.2.1 117 = .ok (.ireturn, 1) := by decide +kernel
theorem dD_isCause_0 : decode mD_isCause.2.1 0 = .ok (.iload_n 0, 1) := by decide +kernel
theorem dD_isCause_1 : decode mD_isCause.2.1 1 = .ok (.iconst 0, 1) := by decide +kernel
theorem dD_isCause_2 : decode mD_isCause.2.1 2 = .ok (.iconst 3, 1) := by decide +kernel
theorem dD_isCause_3 : decode mD_isCause.2.1 3 = .ok (.invokestatic 65, 3) := by decide +kernel
theorem dD_isCause_6 : decode mD_isCause.2.1 6 = .ok (.ireturn, 1) := by decide +kernel
theorem dD_notice_0 : decode mD_notice.2.1 0 = .ok (.aload_n 0, 1) := by decide +kernel
theorem dD_notice_1 : decode mD_notice.2.1 1 = .ok (.getfield 12, 3) := by decide +kernel
theorem dD_notice_4 : decode mD_notice.2.1 4 = .ok (.getfield 148, 3) := by decide +kernel
theorem dD_notice_7 : decode mD_notice.2.1 7 = .ok (.astore_n 3, 1) := by decide +kernel
theorem dD_notice_8 : decode mD_notice.2.1 8 = .ok (.aload_n 3, 1) := by decide +kernel
theorem dD_notice_9 : decode mD_notice.2.1 9 = .ok (.iload_n 1, 1) := by decide +kernel
theorem dD_notice_10 : decode mD_notice.2.1 10 = .ok (.invokevirtual 158, 3) := by decide +kernel
theorem dD_notice_13 : decode mD_notice.2.1 13 = .ok (.ifCond .eq 23, 3) := by decide +kernel
theorem dD_notice_16 : decode mD_notice.2.1 16 = .ok (.iload_n 2, 1) := by decide +kernel
theorem dD_notice_17 : decode mD_notice.2.1 17 = .ok (.aload_n 3, 1) := by decide +kernel
theorem dD_notice_18 : decode mD_notice.2.1 18 = .ok (.getfield 159, 3) := by decide +kernel
theorem dD_notice_21 : decode mD_notice.2.1 21 = .ok (.iload_n 1, 1) := by decide +kernel
theorem dD_notice_22 : decode mD_notice.2.1 22 = .ok (.iaload, 1) := by decide +kernel
theorem dD_notice_23 : decode mD_notice.2.1 23 = .ok (.aload_n 0, 1) := by decide +kernel
theorem dD_notice_24 : decode mD_notice.2.1 24 = .ok (.getfield 12, 3) := by decide +kernel
theorem dD_notice_27 : decode mD_notice.2.1 27 = .ok (.getfield 142, 3) := by decide +kernel
theorem dD_notice_30 : decode mD_notice.2.1 30 = .ok (.invokestatic 65, 3) := by decide +kernel
theorem dD_notice_33 : decode mD_notice.2.1 33 = .ok (.ifCond .ne 10, 3) := by decide +kernel
theorem dD_notice_36 : decode mD_notice.2.1 36 = .ok (.aload_n 0, 1) := by decide +kernel
theorem dD_notice_37 : decode mD_notice.2.1 37 = .ok (.ldc 69, 2) := by decide +kernel
theorem dD_notice_39 : decode mD_notice.2.1 39 = .ok (.invokevirtual 70, 3) := by decide +kernel
theorem dD_notice_42 : decode mD_notice.2.1 42 = .ok (.ireturn, 1) := by decide +kernel
theorem dD_notice_43 : decode mD_notice.2.1 43 = .ok (.aload_n 3, 1) := by decide +kernel
theorem dD_notice_44 : decode mD_notice.2.1 44 = .ok (.getfield 162, 3) := by decide +kernel
theorem dD_notice_47 : decode mD_notice.2.1 47 = .ok (.iload_n 1, 1) := by decide +kernel
theorem dD_notice_48 : decode mD_notice.2.1 48 = .ok (.iaload, 1) := by decide +kernel
theorem dD_notice_49 : decode mD_notice.2.1 49 = .ok (.ifCond .lt 10, 3) := by decide +kernel
theorem dD_notice_52 : decode mD_notice.2.1 52 = .ok (.aload_n 0, 1) := by decide +kernel
theorem dD_notice_53 : decode mD_notice.2.1 53 = .ok (.ldc 111, 2) := by decide +kernel
theorem dD_notice_55 : decode mD_notice.2.1 55 = .ok (.invokevirtual 70, 3) := by decide +kernel
theorem dD_notice_58 : decode mD_notice.2.1 58 = .ok (.ireturn, 1) := by decide +kernel
theorem dD_notice_59 : decode mD_notice.2.1 59 = .ok (.aload_n 3, 1) := by decide +kernel
theorem dD_notice_60 : decode mD_notice.2.1 60 = .ok (.getfield 162, 3) := by decide +kernel
theorem dD_notice_63 : decode mD_notice.2.1 63 = .ok (.iload_n 1, 1) := by decide +kernel
theorem dD_notice_64 : decode mD_notice.2.1 64 = .ok (.iload_n 2, 1) := by decide +kernel
theorem dD_notice_65 : decode mD_notice.2.1 65 = .ok (.iastore, 1) := by decide +kernel
theorem dD_notice_66 : decode mD_notice.2.1 66 = .ok (.iconst 1, 1) := by decide +kernel
theorem dD_notice_67 : decode mD_notice.2.1 67 = .ok (.ireturn, 1) := by decide +kernel
theorem dD_back_0 : decode mD_back.2.1 0 = .ok (.aload_n 0, 1) := by decide +kernel
theorem dD_back_1 : decode mD_back.2.1 1 = .ok (.getfield 12, 3) := by decide +kernel
theorem dD_back_4 : decode mD_back.2.1 4 = .ok (.getfield 148, 3) := by decide +kernel
theorem dD_back_7 : decode mD_back.2.1 7 = .ok (.astore_n 2, 1) := by decide +kernel
theorem dD_back_8 : decode mD_back.2.1 8 = .ok (.aload_n 2, 1) := by decide +kernel
theorem dD_back_9 : decode mD_back.2.1 9 = .ok (.iload_n 1, 1) := by decide +kernel
theorem dD_back_10 : decode mD_back.2.1 10 = .ok (.invokevirtual 158, 3) := by decide +kernel
theorem dD_back_13 : decode mD_back.2.1 13 = .ok (.ifCond .ne 10, 3) := by decide +kernel
theorem dD_back_16 : decode mD_back.2.1 16 = .ok (.aload_n 0, 1) := by decide +kernel
theorem dD_back_17 : decode mD_back.2.1 17 = .ok (.ldc 69, 2) := by decide +kernel
theorem dD_back_19 : decode mD_back.2.1 19 = .ok (.invokevirtual 70, 3) := by decide +kernel
theorem dD_back_22 : decode mD_back.2.1 22 = .ok (.ireturn, 1) := by decide +kernel
theorem dD_back_23 : decode mD_back.2.1 23 = .ok (.aload_n 2, 1) := by decide +kernel
theorem dD_back_24 : decode mD_back.2.1 24 = .ok (.getfield 165, 3) := by decide +kernel
theorem dD_back_27 : decode mD_back.2.1 27 = .ok (.iload_n 1, 1) := by decide +kernel
theorem dD_back_28 : decode mD_back.2.1 28 = .ok (.iaload, 1) := by decide +kernel
theorem dD_back_29 : decode mD_back.2.1 29 = .ok (.ifCond .ge 19, 3) := by decide +kernel
theorem dD_back_32 : decode mD_back.2.1 32 = .ok (.aload_n 2, 1) := by decide +kernel
theorem dD_back_33 : decode mD_back.2.1 33 = .ok (.getfield 168, 3) := by decide +kernel
theorem dD_back_36 : decode mD_back.2.1 36 = .ok (.iload_n 1, 1) := by decide +kernel
theorem dD_back_37 : decode mD_back.2.1 37 = .ok (.iaload, 1) := by decide +kernel
theorem dD_back_38 : decode mD_back.2.1 38 = .ok (.aload_n 0, 1) := by decide +kernel
theorem dD_back_39 : decode mD_back.2.1 39 = .ok (.getfield 12, 3) := by decide +kernel
theorem dD_back_42 : decode mD_back.2.1 42 = .ok (.getfield 142, 3) := by decide +kernel
theorem dD_back_45 : decode mD_back.2.1 45 = .ok (.if_icmp .ne 10, 3) := by decide +kernel
theorem dD_back_48 : decode mD_back.2.1 48 = .ok (.aload_n 0, 1) := by decide +kernel
theorem dD_back_49 : decode mD_back.2.1 49 = .ok (.ldc 111, 2) := by decide +kernel
theorem dD_back_51 : decode mD_back.2.1 51 = .ok (.invokevirtual 70, 3) := by decide +kernel
theorem dD_back_54 : decode mD_back.2.1 54 = .ok (.ireturn, 1) := by decide +kernel
theorem dD_back_55 : decode mD_back.2.1 55 = .ok (.aload_n 2, 1) := by decide +kernel
theorem dD_back_56 : decode mD_back.2.1 56 = .ok (.getfield 165, 3) := by decide +kernel
theorem dD_back_59 : decode mD_back.2.1 59 = .ok (.iload_n 1, 1) := by decide +kernel
theorem dD_back_60 : decode mD_back.2.1 60 = .ok (.aload_n 0, 1) := by decide +kernel
theorem dD_back_61 : decode mD_back.2.1 61 = .ok (.getfield 12, 3) := by decide +kernel
theorem dD_back_64 : decode mD_back.2.1 64 = .ok (.getfield 142, 3) := by decide +kernel
theorem dD_back_67 : decode mD_back.2.1 67 = .ok (.iastore, 1) := by decide +kernel
theorem dD_back_68 : decode mD_back.2.1 68 = .ok (.iconst 1, 1) := by decide +kernel
theorem dD_back_69 : decode mD_back.2.1 69 = .ok (.ireturn, 1) := by decide +kernel
theorem dD_of_0 : decode mD_of.2.1 0 = .ok (.aload_n 0, 1) := by decide +kernel
theorem dD_of_1 : decode mD_of.2.1 1 = .ok (.getfield 12, 3) := by decide +kernel
theorem dD_of_4 : decode mD_of.2.1 4 = .ok (.getfield 148, 3) := by decide +kernel
theorem dD_of_7 : decode mD_of.2.1 7 = .ok (.astore_n 3, 1) := by decide +kernel
theorem dD_of_8 : decode mD_of.2.1 8 = .ok (.aload_n 3, 1) := by decide +kernel
theorem dD_of_9 : decode mD_of.2.1 9 = .ok (.iload_n 1, 1) := by decide +kernel
theorem dD_of_10 : decode mD_of.2.1 10 = .ok (.invokevirtual 158, 3) := by decide +kernel
theorem dD_of_13 : decode mD_of.2.1 13 = .ok (.ifCond .ne 10, 3) := by decide +kernel
theorem dD_of_16 : decode mD_of.2.1 16 = .ok (.aload_n 0, 1) := by decide +kernel
theorem dD_of_17 : decode mD_of.2.1 17 = .ok (.ldc 69, 2) := by decide +kernel
theorem dD_of_19 : decode mD_of.2.1 19 = .ok (.invokevirtual 70, 3) := by decide +kernel
theorem dD_of_22 : decode mD_of.2.1 22 = .ok (.ireturn, 1) := by decide +kernel
theorem dD_of_23 : decode mD_of.2.1 23 = .ok (.iload_n 2, 1) := by decide +kernel
theorem dD_of_24 : decode mD_of.2.1 24 = .ok (.tableswitch 93 0 6 #[44, 51, 58, 65, 72, 79, 86], 44) := by decide +kernel
theorem dD_of_68 : decode mD_of.2.1 68 = .ok (.aload_n 3, 1) := by decide +kernel
theorem dD_of_69 : decode mD_of.2.1 69 = .ok (.getfield 171, 3) := by decide +kernel
theorem dD_of_72 : decode mD_of.2.1 72 = .ok (.iload_n 1, 1) := by decide +kernel
theorem dD_of_73 : decode mD_of.2.1 73 = .ok (.iaload, 1) := by decide +kernel
theorem dD_of_74 : decode mD_of.2.1 74 = .ok (.ireturn, 1) := by decide +kernel
theorem dD_of_75 : decode mD_of.2.1 75 = .ok (.aload_n 3, 1) := by decide +kernel
theorem dD_of_76 : decode mD_of.2.1 76 = .ok (.getfield 174, 3) := by decide +kernel
theorem dD_of_79 : decode mD_of.2.1 79 = .ok (.iload_n 1, 1) := by decide +kernel
theorem dD_of_80 : decode mD_of.2.1 80 = .ok (.iaload, 1) := by decide +kernel
theorem dD_of_81 : decode mD_of.2.1 81 = .ok (.ireturn, 1) := by decide +kernel
theorem dD_of_82 : decode mD_of.2.1 82 = .ok (.aload_n 3, 1) := by decide +kernel
theorem dD_of_83 : decode mD_of.2.1 83 = .ok (.getfield 159, 3) := by decide +kernel
theorem dD_of_86 : decode mD_of.2.1 86 = .ok (.iload_n 1, 1) := by decide +kernel
theorem dD_of_87 : decode mD_of.2.1 87 = .ok (.iaload, 1) := by decide +kernel
theorem dD_of_88 : decode mD_of.2.1 88 = .ok (.ireturn, 1) := by decide +kernel
theorem dD_of_89 : decode mD_of.2.1 89 = .ok (.aload_n 3, 1) := by decide +kernel
theorem dD_of_90 : decode mD_of.2.1 90 = .ok (.getfield 177, 3) := by decide +kernel
theorem dD_of_93 : decode mD_of.2.1 93 = .ok (.iload_n 1, 1) := by decide +kernel
theorem dD_of_94 : decode mD_of.2.1 94 = .ok (.iaload, 1) := by decide +kernel
theorem dD_of_95 : decode mD_of.2.1 95 = .ok (.ireturn, 1) := by decide +kernel
theorem dD_of_96 : decode mD_of.2.1 96 = .ok (.aload_n 3, 1) := by decide +kernel
theorem dD_of_97 : decode mD_of.2.1 97 = .ok (.getfield 162, 3) := by decide +kernel
theorem dD_of_100 : decode mD_of.2.1 100 = .ok (.iload_n 1, 1) := by decide +kernel
theorem dD_of_101 : decode mD_of.2.1 101 = .ok (.iaload, 1) := by decide +kernel
theorem dD_of_102 : decode mD_of.2.1 102 = .ok (.ireturn, 1) := by decide +kernel
theorem dD_of_103 : decode mD_of.2.1 103 = .ok (.aload_n 3, 1) := by decide +kernel
theorem dD_of_104 : decode mD_of.2.1 104 = .ok (.getfield 168, 3) := by decide +kernel
theorem dD_of_107 : decode mD_of.2.1 107 = .ok (.iload_n 1, 1) := by decide +kernel
theorem dD_of_108 : decode mD_of.2.1 108 = .ok (.iaload, 1) := by decide +kernel
theorem dD_of_109 : decode mD_of.2.1 109 = .ok (.ireturn, 1) := by decide +kernel
theorem dD_of_110 : decode mD_of.2.1 110 = .ok (.aload_n 3, 1) := by decide +kernel
theorem dD_of_111 : decode mD_of.2.1 111 = .ok (.getfield 165, 3) := by decide +kernel
theorem dD_of_114 : decode mD_of.2.1 114 = .ok (.iload_n 1, 1) := by decide +kernel
theorem dD_of_115 : decode mD_of.2.1 115 = .ok (.iaload, 1) := by decide +kernel
theorem dD_of_116 : decode mD_of.2.1 116 = .ok (.ireturn, 1) := by decide +kernel
theorem dD_of_117 : decode mD_of.2.1 117 = .ok (.aload_n 0, 1) := by decide +kernel
theorem dD_of_118 : decode mD_of.2.1 118 = .ok (.ldc 69, 2) := by decide +kernel
theorem dD_of_120 : decode mD_of.2.1 120 = .ok (.invokevirtual 70, 3) := by decide +kernel
theorem dD_of_123 : decode mD_of.2.1 123 = .ok (.ireturn, 1) := by decide +kernel
theorem dD_known_0 : decode mD_known.2.1 0 = .ok (.iload_n 1, 1) := by decide +kernel
theorem dD_known_1 : decode mD_known.2.1 1 = .ok (.invokestatic 180, 3) := by decide +kernel
theorem dD_known_4 : decode mD_known.2.1 4 = .ok (.ifCond .eq 17, 3) := by decide +kernel
theorem dD_known_7 : decode mD_known.2.1 7 = .ok (.aload_n 0, 1) := by decide +kernel
theorem dD_known_8 : decode mD_known.2.1 8 = .ok (.getfield 12, 3) := by decide +kernel
theorem dD_known_11 : decode mD_known.2.1 11 = .ok (.getfield 148, 3) := by decide +kernel
theorem dD_known_14 : decode mD_known.2.1 14 = .ok (.iload_n 1, 1) := by decide +kernel
theorem dD_known_15 : decode mD_known.2.1 15 = .ok (.invokevirtual 183, 3) := by decide +kernel
theorem dD_known_18 : decode mD_known.2.1 18 = .ok (.goto 9, 3) := by decide +kernel
theorem dD_known_21 : decode mD_known.2.1 21 = .ok (.aload_n 0, 1) := by decide +kernel
theorem dD_known_22 : decode mD_known.2.1 22 = .ok (.ldc 69, 2) := by decide +kernel
theorem dD_known_24 : decode mD_known.2.1 24 = .ok (.invokevirtual 70, 3) := by decide +kernel
theorem dD_known_27 : decode mD_known.2.1 27 = .ok (.ireturn, 1) := by decide +kernel
theorem dD_isDay_0 : decode mD_isDay.2.1 0 = .ok (.iload_n 0, 1) := by decide +kernel
theorem dD_isDay_1 : decode mD_isDay.2.1 1 = .ok (.iconst 0, 1) := by decide +kernel
theorem dD_isDay_2 : decode mD_isDay.2.1 2 = .ok (.sipush 900, 3) := by decide +kernel
theorem dD_isDay_5 : decode mD_isDay.2.1 5 = .ok (.invokestatic 65, 3) := by decide +kernel
theorem dD_isDay_8 : decode mD_isDay.2.1 8 = .ok (.ireturn, 1) := by decide +kernel
theorem dD_plan_0 : decode mD_plan.2.1 0 = .ok (.aload_n 0, 1) := by decide +kernel
theorem dD_plan_1 : decode mD_plan.2.1 1 = .ok (.getfield 12, 3) := by decide +kernel
theorem dD_plan_4 : decode mD_plan.2.1 4 = .ok (.getfield 148, 3) := by decide +kernel
theorem dD_plan_7 : decode mD_plan.2.1 7 = .ok (.iload_n 1, 1) := by decide +kernel
theorem dD_plan_8 : decode mD_plan.2.1 8 = .ok (.invokevirtual 186, 3) := by decide +kernel
theorem dD_plan_11 : decode mD_plan.2.1 11 = .ok (.ifCond .eq 26, 3) := by decide +kernel
theorem dD_plan_14 : decode mD_plan.2.1 14 = .ok (.aload_n 0, 1) := by decide +kernel
theorem dD_plan_15 : decode mD_plan.2.1 15 = .ok (.getfield 12, 3) := by decide +kernel
theorem dD_plan_18 : decode mD_plan.2.1 18 = .ok (.getfield 74, 3) := by decide +kernel
theorem dD_plan_21 : decode mD_plan.2.1 21 = .ok (.iload_n 2, 1) := by decide +kernel
theorem dD_plan_22 : decode mD_plan.2.1 22 = .ok (.invokevirtual 88, 3) := by decide +kernel
theorem dD_plan_25 : decode mD_plan.2.1 25 = .ok (.ifCond .eq 12, 3) := by decide +kernel
theorem dD_plan_28 : decode mD_plan.2.1 28 = .ok (.iload_n 3, 1) := by decide +kernel
theorem dD_plan_29 : decode mD_plan.2.1 29 = .ok (.iconst 0, 1) := by decide +kernel
theorem dD_plan_30 : decode mD_plan.2.1 30 = .ok (.iconst 2, 1) := by decide +kernel
theorem dD_plan_31 : decode mD_plan.2.1 31 = .ok (.invokestatic 65, 3) := by decide +kernel
theorem dD_plan_34 : decode mD_plan.2.1 34 = .ok (.ifCond .ne 10, 3) := by decide +kernel
theorem dD_plan_37 : decode mD_plan.2.1 37 = .ok (.aload_n 0, 1) := by decide +kernel
theorem dD_plan_38 : decode mD_plan.2.1 38 = .ok (.ldc 69, 2) := by decide +kernel
theorem dD_plan_40 : decode mD_plan.2.1 40 = .ok (.invokevirtual 70, 3) := by decide +kernel
theorem dD_plan_43 : decode mD_plan.2.1 43 = .ok (.ireturn, 1) := by decide +kernel
theorem dD_plan_44 : decode mD_plan.2.1 44 = .ok (.iload_n 3, 1) := by decide +kernel
theorem dD_plan_45 : decode mD_plan.2.1 45 = .ok (.iconst 2, 1) := by decide +kernel
theorem dD_plan_46 : decode mD_plan.2.1 46 = .ok (.if_icmp .ne 10, 3) := by decide +kernel
theorem dD_plan_49 : decode mD_plan.2.1 49 = .ok (.aload_n 0, 1) := by decide +kernel
theorem dD_plan_50 : decode mD_plan.2.1 50 = .ok (.iload_n 2, 1) := by decide +kernel
theorem dD_plan_51 : decode mD_plan.2.1 51 = .ok (.iload_n 1, 1) := by decide +kernel
theorem dD_plan_52 : decode mD_plan.2.1 52 = .ok (.invokevirtual 189, 3) := by decide +kernel
theorem dD_plan_55 : decode mD_plan.2.1 55 = .ok (.ireturn, 1) := by decide +kernel
theorem dD_plan_56 : decode mD_plan.2.1 56 = .ok (.aload_n 0, 1) := by decide +kernel
theorem dD_plan_57 : decode mD_plan.2.1 57 = .ok (.iload_n 1, 1) := by decide +kernel
theorem dD_plan_58 : decode mD_plan.2.1 58 = .ok (.invokevirtual 192, 3) := by decide +kernel
theorem dD_plan_61 : decode mD_plan.2.1 61 = .ok (.pop, 1) := by decide +kernel
theorem dD_plan_62 : decode mD_plan.2.1 62 = .ok (.iload_n 3, 1) := by decide +kernel
theorem dD_plan_63 : decode mD_plan.2.1 63 = .ok (.ifCond .ne 15, 3) := by decide +kernel
theorem dD_plan_66 : decode mD_plan.2.1 66 = .ok (.aload_n 0, 1) := by decide +kernel
theorem dD_plan_67 : decode mD_plan.2.1 67 = .ok (.getfield 22, 3) := by decide +kernel
theorem dD_plan_70 : decode mD_plan.2.1 70 = .ok (.getfield 195, 3) := by decide +kernel
theorem dD_plan_73 : decode mD_plan.2.1 73 = .ok (.iload_n 2, 1) := by decide +kernel
theorem dD_plan_74 : decode mD_plan.2.1 74 = .ok (.iaload, 1) := by decide +kernel
theorem dD_plan_75 : decode mD_plan.2.1 75 = .ok (.goto 12, 3) := by decide +kernel
theorem dD_plan_78 : decode mD_plan.2.1 78 = .ok (.aload_n 0, 1) := by decide +kernel
theorem dD_plan_79 : decode mD_plan.2.1 79 = .ok (.getfield 22, 3) := by decide +kernel
theorem dD_plan_82 : decode mD_plan.2.1 82 = .ok (.getfield 198, 3) := by decide +kernel
theorem dD_plan_85 : decode mD_plan.2.1 85 = .ok (.iload_n 2, 1) := by decide +kernel
theorem dD_plan_86 : decode mD_plan.2.1 86 = .ok (.iaload, 1) := by decide +kernel
theorem dD_plan_87 : decode mD_plan.2.1 87 = .ok (.ireturn, 1) := by decide +kernel
theorem dD_floatOf_0 : decode mD_floatOf.2.1 0 = .ok (.aload_n 0, 1) := by decide +kernel
theorem dD_floatOf_1 : decode mD_floatOf.2.1 1 = .ok (.getfield 22, 3) := by decide +kernel
theorem dD_floatOf_4 : decode mD_floatOf.2.1 4 = .ok (.aload_n 0, 1) := by decide +kernel
theorem dD_floatOf_5 : decode mD_floatOf.2.1 5 = .ok (.getfield 12, 3) := by decide +kernel
theorem dD_floatOf_8 : decode mD_floatOf.2.1 8 = .ok (.iload_n 2, 1) := by decide +kernel
theorem dD_floatOf_9 : decode mD_floatOf.2.1 9 = .ok (.invokevirtual 348, 3) := by decide +kernel
theorem dD_floatOf_12 : decode mD_floatOf.2.1 12 = .ok (.aload_n 0, 1) := by decide +kernel
theorem dD_floatOf_13 : decode mD_floatOf.2.1 13 = .ok (.getfield 22, 3) := by decide +kernel
theorem dD_floatOf_16 : decode mD_floatOf.2.1 16 = .ok (.getfield 356, 3) := by decide +kernel
theorem dD_floatOf_19 : decode mD_floatOf.2.1 19 = .ok (.iload_n 1, 1) := by decide +kernel
theorem dD_floatOf_20 : decode mD_floatOf.2.1 20 = .ok (.iaload, 1) := by decide +kernel
theorem dD_floatOf_21 : decode mD_floatOf.2.1 21 = .ok (.istore_n 3, 1) := by decide +kernel
theorem dD_floatOf_22 : decode mD_floatOf.2.1 22 = .ok (.aload_n 0, 1) := by decide +kernel
theorem dD_floatOf_23 : decode mD_floatOf.2.1 23 = .ok (.getfield 22, 3) := by decide +kernel
theorem dD_floatOf_26 : decode mD_floatOf.2.1 26 = .ok (.aload_n 0, 1) := by decide +kernel
theorem dD_floatOf_27 : decode mD_floatOf.2.1 27 = .ok (.getfield 12, 3) := by decide +kernel
theorem dD_floatOf_30 : decode mD_floatOf.2.1 30 = .ok (.invokevirtual 352, 3) := by decide +kernel
theorem dD_floatOf_33 : decode mD_floatOf.2.1 33 = .ok (.istore 4, 2) := by decide +kernel
theorem dD_floatOf_35 : decode mD_floatOf.2.1 35 = .ok (.iconst 0, 1) := by decide +kernel
theorem dD_floatOf_36 : decode mD_floatOf.2.1 36 = .ok (.istore 5, 2) := by decide +kernel
theorem dD_floatOf_38 : decode mD_floatOf.2.1 38 = .ok (.bipush 99, 2) := by decide +kernel
theorem dD_floatOf_40 : decode mD_floatOf.2.1 40 = .ok (.istore 6, 2) := by decide +kernel
theorem dD_floatOf_42 : decode mD_floatOf.2.1 42 = .ok (.iconst 0, 1) := by decide +kernel
theorem dD_floatOf_43 : decode mD_floatOf.2.1 43 = .ok (.istore 7, 2) := by decide +kernel
theorem dD_floatOf_45 : decode mD_floatOf.2.1 45 = .ok (.iload 7, 2) := by decide +kernel
theorem dD_floatOf_47 : decode mD_floatOf.2.1 47 = .ok (.bipush 99, 2) := by decide +kernel
theorem dD_floatOf_49 : decode mD_floatOf.2.1 49 = .ok (.if_icmp .gt 69, 3) := by decide +kernel
theorem dD_floatOf_52 : decode mD_floatOf.2.1 52 = .ok (.iload 5, 2) := by decide +kernel
theorem dD_floatOf_54 : decode mD_floatOf.2.1 54 = .ok (.iload 6, 2) := by decide +kernel
theorem dD_floatOf_56 : decode mD_floatOf.2.1 56 = .ok (.if_icmp .ge 62, 3) := by decide +kernel
theorem dD_floatOf_59 : decode mD_floatOf.2.1 59 = .ok (.iload 5, 2) := by decide +kernel
theorem dD_floatOf_61 : decode mD_floatOf.2.1 61 = .ok (.iload 6, 2) := by decide +kernel
theorem dD_floatOf_63 : decode mD_floatOf.2.1 63 = .ok (.iadd, 1) := by decide +kernel
theorem dD_floatOf_64 : decode mD_floatOf.2.1 64 = .ok (.iconst 1, 1) := by decide +kernel
theorem dD_floatOf_65 : decode mD_floatOf.2.1 65 = .ok (.iadd, 1) := by decide +kernel
theorem dD_floatOf_66 : decode mD_floatOf.2.1 66 = .ok (.iconst 2, 1) := by decide +kernel
theorem dD_floatOf_67 : decode mD_floatOf.2.1 67 = .ok (.idiv, 1) := by decide +kernel
theorem dD_floatOf_68 : decode mD_floatOf.2.1 68 = .ok (.istore 8, 2) := by decide +kernel
theorem dD_floatOf_70 : decode mD_floatOf.2.1 70 = .ok (.aload_n 0, 1) := by decide +kernel
theorem dD_floatOf_71 : decode mD_floatOf.2.1 71 = .ok (.getfield 22, 3) := by decide +kernel
theorem dD_floatOf_74 : decode mD_floatOf.2.1 74 = .ok (.getfield 356, 3) := by decide +kernel
theorem dD_floatOf_77 : decode mD_floatOf.2.1 77 = .ok (.iload_n 1, 1) := by decide +kernel
theorem dD_floatOf_78 : decode mD_floatOf.2.1 78 = .ok (.iload_n 3, 1) := by decide +kernel
theorem dD_floatOf_79 : decode mD_floatOf.2.1 79 = .ok (.iload 8, 2) := by decide +kernel
theorem dD_floatOf_81 : decode mD_floatOf.2.1 81 = .ok (.iadd, 1) := by decide +kernel
theorem dD_floatOf_82 : decode mD_floatOf.2.1 82 = .ok (.iastore, 1) := by decide +kernel
theorem dD_floatOf_83 : decode mD_floatOf.2.1 83 = .ok (.aload_n 0, 1) := by decide +kernel
theorem dD_floatOf_84 : decode mD_floatOf.2.1 84 = .ok (.getfield 22, 3) := by decide +kernel
theorem dD_floatOf_87 : decode mD_floatOf.2.1 87 = .ok (.aload_n 0, 1) := by decide +kernel
theorem dD_floatOf_88 : decode mD_floatOf.2.1 88 = .ok (.getfield 12, 3) := by decide +kernel
theorem dD_floatOf_91 : decode mD_floatOf.2.1 91 = .ok (.invokevirtual 352, 3) := by decide +kernel
theorem dD_floatOf_94 : decode mD_floatOf.2.1 94 = .ok (.iload 4, 2) := by decide +kernel
theorem dD_floatOf_96 : decode mD_floatOf.2.1 96 = .ok (.if_icmp .ne 10, 3) := by decide +kernel
theorem dD_floatOf_99 : decode mD_floatOf.2.1 99 = .ok (.iload 8, 2) := by decide +kernel
theorem dD_floatOf_101 : decode mD_floatOf.2.1 101 = .ok (.istore 5, 2) := by decide +kernel
theorem dD_floatOf_103 : decode mD_floatOf.2.1 103 = .ok (.goto 9, 3) := by decide +kernel
theorem dD_floatOf_106 : decode mD_floatOf.2.1 106 = .ok (.iload 8, 2) := by decide +kernel
theorem dD_floatOf_108 : decode mD_floatOf.2.1 108 = .ok (.iconst 1, 1) := by decide +kernel
theorem dD_floatOf_109 : decode mD_floatOf.2.1 109 = .ok (.isub, 1) := by decide +kernel
theorem dD_floatOf_110 : decode mD_floatOf.2.1 110 = .ok (.istore 6, 2) := by decide +kernel
theorem dD_floatOf_112 : decode mD_floatOf.2.1 112 = .ok (.iinc 7 1, 3) := by decide +kernel
theorem dD_floatOf_115 : decode mD_floatOf.2.1 115 = .ok (.goto (-70), 3) := by decide +kernel
theorem dD_floatOf_118 : decode mD_floatOf.2.1 118 = .ok (.iload 5, 2) := by decide +kernel
theorem dD_floatOf_120 : decode mD_floatOf.2.1 120 = .ok (.ireturn, 1) := by decide +kernel
theorem dD_endOf_0 : decode mD_endOf.2.1 0 = .ok (.aload_n 0, 1) := by decide +kernel
theorem dD_endOf_1 : decode mD_endOf.2.1 1 = .ok (.getfield 22, 3) := by decide +kernel
theorem dD_endOf_4 : decode mD_endOf.2.1 4 = .ok (.aload_n 0, 1) := by decide +kernel
theorem dD_endOf_5 : decode mD_endOf.2.1 5 = .ok (.getfield 12, 3) := by decide +kernel
theorem dD_endOf_8 : decode mD_endOf.2.1 8 = .ok (.iload_n 1, 1) := by decide +kernel
theorem dD_endOf_9 : decode mD_endOf.2.1 9 = .ok (.invokevirtual 348, 3) := by decide +kernel
theorem dD_endOf_12 : decode mD_endOf.2.1 12 = .ok (.aload_n 0, 1) := by decide +kernel
theorem dD_endOf_13 : decode mD_endOf.2.1 13 = .ok (.getfield 22, 3) := by decide +kernel
theorem dD_endOf_16 : decode mD_endOf.2.1 16 = .ok (.aload_n 0, 1) := by decide +kernel
theorem dD_endOf_17 : decode mD_endOf.2.1 17 = .ok (.getfield 12, 3) := by decide +kernel
theorem dD_endOf_20 : decode mD_endOf.2.1 20 = .ok (.invokevirtual 352, 3) := by decide +kernel
theorem dD_endOf_23 : decode mD_endOf.2.1 23 = .ok (.ireturn, 1) := by decide +kernel
theorem dD_end_0 : decode mD_end.2.1 0 = .ok (.aload_n 0, 1) := by decide +kernel
theorem dD_end_1 : decode mD_end.2.1 1 = .ok (.getfield 12, 3) := by decide +kernel
theorem dD_end_4 : decode mD_end.2.1 4 = .ok (.getfield 148, 3) := by decide +kernel
theorem dD_end_7 : decode mD_end.2.1 7 = .ok (.iload_n 1, 1) := by decide +kernel
theorem dD_end_8 : decode mD_end.2.1 8 = .ok (.invokevirtual 186, 3) := by decide +kernel
theorem dD_end_11 : decode mD_end.2.1 11 = .ok (.ifCond .eq 11, 3) := by decide +kernel
theorem dD_end_14 : decode mD_end.2.1 14 = .ok (.aload_n 0, 1) := by decide +kernel
theorem dD_end_15 : decode mD_end.2.1 15 = .ok (.iload_n 1, 1) := by decide +kernel
theorem dD_end_16 : decode mD_end.2.1 16 = .ok (.invokevirtual 192, 3) := by decide +kernel
theorem dD_end_19 : decode mD_end.2.1 19 = .ok (.goto 9, 3) := by decide +kernel
theorem dD_end_22 : decode mD_end.2.1 22 = .ok (.aload_n 0, 1) := by decide +kernel
theorem dD_end_23 : decode mD_end.2.1 23 = .ok (.ldc 69, 2) := by decide +kernel
theorem dD_end_25 : decode mD_end.2.1 25 = .ok (.invokevirtual 70, 3) := by decide +kernel
theorem dD_end_28 : decode mD_end.2.1 28 = .ok (.ireturn, 1) := by decide +kernel
theorem dD_chain_0 : decode mD_chain.2.1 0 = .ok (.aload_n 0, 1) := by decide +kernel
theorem dD_chain_1 : decode mD_chain.2.1 1 = .ok (.getfield 12, 3) := by decide +kernel
theorem dD_chain_4 : decode mD_chain.2.1 4 = .ok (.getfield 148, 3) := by decide +kernel
theorem dD_chain_7 : decode mD_chain.2.1 7 = .ok (.iload_n 1, 1) := by decide +kernel
theorem dD_chain_8 : decode mD_chain.2.1 8 = .ok (.invokevirtual 186, 3) := by decide +kernel
theorem dD_chain_11 : decode mD_chain.2.1 11 = .ok (.ifCond .eq 7, 3) := by decide +kernel
theorem dD_chain_14 : decode mD_chain.2.1 14 = .ok (.iload_n 2, 1) := by decide +kernel
theorem dD_chain_15 : decode mD_chain.2.1 15 = .ok (.ifCond .ge 10, 3) := by decide +kernel
theorem dD_chain_18 : decode mD_chain.2.1 18 = .ok (.aload_n 0, 1) := by decide +kernel
theorem dD_chain_19 : decode mD_chain.2.1 19 = .ok (.ldc 69, 2) := by decide +kernel
theorem dD_chain_21 : decode mD_chain.2.1 21 = .ok (.invokevirtual 70, 3) := by decide +kernel
theorem dD_chain_24 : decode mD_chain.2.1 24 = .ok (.ireturn, 1) := by decide +kernel
theorem dD_chain_25 : decode mD_chain.2.1 25 = .ok (.aload_n 0, 1) := by decide +kernel
theorem dD_chain_26 : decode mD_chain.2.1 26 = .ok (.iload_n 1, 1) := by decide +kernel
theorem dD_chain_27 : decode mD_chain.2.1 27 = .ok (.invokevirtual 192, 3) := by decide +kernel
theorem dD_chain_30 : decode mD_chain.2.1 30 = .ok (.pop, 1) := by decide +kernel
theorem dD_chain_31 : decode mD_chain.2.1 31 = .ok (.aload_n 0, 1) := by decide +kernel
theorem dD_chain_32 : decode mD_chain.2.1 32 = .ok (.getfield 22, 3) := by decide +kernel
theorem dD_chain_35 : decode mD_chain.2.1 35 = .ok (.aload_n 0, 1) := by decide +kernel
theorem dD_chain_36 : decode mD_chain.2.1 36 = .ok (.getfield 12, 3) := by decide +kernel
theorem dD_chain_39 : decode mD_chain.2.1 39 = .ok (.getfield 74, 3) := by decide +kernel
theorem dD_chain_42 : decode mD_chain.2.1 42 = .ok (.invokevirtual 201, 3) := by decide +kernel
theorem dD_chain_45 : decode mD_chain.2.1 45 = .ok (.istore_n 3, 1) := by decide +kernel
theorem dD_chain_46 : decode mD_chain.2.1 46 = .ok (.iconst 0, 1) := by decide +kernel
theorem dD_chain_47 : decode mD_chain.2.1 47 = .ok (.istore 4, 2) := by decide +kernel
theorem dD_chain_49 : decode mD_chain.2.1 49 = .ok (.iload 4, 2) := by decide +kernel
theorem dD_chain_51 : decode mD_chain.2.1 51 = .ok (.bipush 16, 2) := by decide +kernel
theorem dD_chain_53 : decode mD_chain.2.1 53 = .ok (.if_icmp .ge 35, 3) := by decide +kernel
theorem dD_chain_56 : decode mD_chain.2.1 56 = .ok (.iload 4, 2) := by decide +kernel
theorem dD_chain_58 : decode mD_chain.2.1 58 = .ok (.iload_n 2, 1) := by decide +kernel
theorem dD_chain_59 : decode mD_chain.2.1 59 = .ok (.if_icmp .ge 29, 3) := by decide +kernel
theorem dD_chain_62 : decode mD_chain.2.1 62 = .ok (.iload_n 3, 1) := by decide +kernel
theorem dD_chain_63 : decode mD_chain.2.1 63 = .ok (.ifCond .lt 25, 3) := by decide +kernel
theorem dD_chain_66 : decode mD_chain.2.1 66 = .ok (.aload_n 0, 1) := by decide +kernel
theorem dD_chain_67 : decode mD_chain.2.1 67 = .ok (.getfield 22, 3) := by decide +kernel
theorem dD_chain_70 : decode mD_chain.2.1 70 = .ok (.iload_n 3, 1) := by decide +kernel
theorem dD_chain_71 : decode mD_chain.2.1 71 = .ok (.aload_n 0, 1) := by decide +kernel
theorem dD_chain_72 : decode mD_chain.2.1 72 = .ok (.getfield 12, 3) := by decide +kernel
theorem dD_chain_75 : decode mD_chain.2.1 75 = .ok (.getfield 74, 3) := by decide +kernel
theorem dD_chain_78 : decode mD_chain.2.1 78 = .ok (.invokevirtual 205, 3) := by decide +kernel
theorem dD_chain_81 : decode mD_chain.2.1 81 = .ok (.istore_n 3, 1) := by decide +kernel
theorem dD_chain_82 : decode mD_chain.2.1 82 = .ok (.iinc 4 1, 3) := by decide +kernel
theorem dD_chain_85 : decode mD_chain.2.1 85 = .ok (.goto (-36), 3) := by decide +kernel
theorem dD_chain_88 : decode mD_chain.2.1 88 = .ok (.iload_n 3, 1) := by decide +kernel
theorem dD_chain_89 : decode mD_chain.2.1 89 = .ok (.ifCond .lt 7, 3) := by decide +kernel
theorem dD_chain_92 : decode mD_chain.2.1 92 = .ok (.iload_n 3, 1) := by decide +kernel
theorem dD_chain_93 : decode mD_chain.2.1 93 = .ok (.goto 9, 3) := by decide +kernel
theorem dD_chain_96 : decode mD_chain.2.1 96 = .ok (.aload_n 0, 1) := by decide +kernel
theorem dD_chain_97 : decode mD_chain.2.1 97 = .ok (.ldc 125, 2) := by decide +kernel
theorem dD_chain_99 : decode mD_chain.2.1 99 = .ok (.invokevirtual 70, 3) := by decide +kernel
theorem dD_chain_102 : decode mD_chain.2.1 102 = .ok (.ireturn, 1) := by decide +kernel
theorem dD_one_0 : decode mD_one.2.1 0 = .ok (.aload_n 0, 1) := by decide +kernel
theorem dD_one_1 : decode mD_one.2.1 1 = .ok (.getfield 12, 3) := by decide +kernel
theorem dD_one_4 : decode mD_one.2.1 4 = .ok (.getfield 148, 3) := by decide +kernel
theorem dD_one_7 : decode mD_one.2.1 7 = .ok (.iload_n 1, 1) := by decide +kernel
theorem dD_one_8 : decode mD_one.2.1 8 = .ok (.invokevirtual 158, 3) := by decide +kernel
theorem dD_one_11 : decode mD_one.2.1 11 = .ok (.ifCond .eq 10, 3) := by decide +kernel
theorem dD_one_14 : decode mD_one.2.1 14 = .ok (.iload_n 2, 1) := by decide +kernel
theorem dD_one_15 : decode mD_one.2.1 15 = .ok (.invokestatic 180, 3) := by decide +kernel
theorem dD_one_18 : decode mD_one.2.1 18 = .ok (.ifCond .ne 10, 3) := by decide +kernel
theorem dD_one_21 : decode mD_one.2.1 21 = .ok (.aload_n 0, 1) := by decide +kernel
theorem dD_one_22 : decode mD_one.2.1 22 = .ok (.ldc 69, 2) := by decide +kernel
theorem dD_one_24 : decode mD_one.2.1 24 = .ok (.invokevirtual 70, 3) := by decide +kernel
theorem dD_one_27 : decode mD_one.2.1 27 = .ok (.ireturn, 1) := by decide +kernel
theorem dD_one_28 : decode mD_one.2.1 28 = .ok (.aload_n 0, 1) := by decide +kernel
theorem dD_one_29 : decode mD_one.2.1 29 = .ok (.getfield 12, 3) := by decide +kernel
theorem dD_one_32 : decode mD_one.2.1 32 = .ok (.getfield 148, 3) := by decide +kernel
theorem dD_one_35 : decode mD_one.2.1 35 = .ok (.iload_n 2, 1) := by decide +kernel
theorem dD_one_36 : decode mD_one.2.1 36 = .ok (.invokevirtual 183, 3) := by decide +kernel
theorem dD_one_39 : decode mD_one.2.1 39 = .ok (.istore_n 3, 1) := by decide +kernel
theorem dD_one_40 : decode mD_one.2.1 40 = .ok (.iload_n 3, 1) := by decide +kernel
theorem dD_one_41 : decode mD_one.2.1 41 = .ok (.iload_n 1, 1) := by decide +kernel
theorem dD_one_42 : decode mD_one.2.1 42 = .ok (.invokestatic 209, 3) := by decide +kernel
theorem dD_one_45 : decode mD_one.2.1 45 = .ok (.ifCond .eq 12, 3) := by decide +kernel
theorem dD_one_48 : decode mD_one.2.1 48 = .ok (.aload_n 0, 1) := by decide +kernel
theorem dD_one_49 : decode mD_one.2.1 49 = .ok (.iload_n 1, 1) := by decide +kernel
theorem dD_one_50 : decode mD_one.2.1 50 = .ok (.iload_n 3, 1) := by decide +kernel
theorem dD_one_51 : decode mD_one.2.1 51 = .ok (.invokevirtual 212, 3) := by decide +kernel
theorem dD_one_54 : decode mD_one.2.1 54 = .ok (.goto 9, 3) := by decide +kernel
theorem dD_one_57 : decode mD_one.2.1 57 = .ok (.aload_n 0, 1) := by decide +kernel
theorem dD_one_58 : decode mD_one.2.1 58 = .ok (.ldc 125, 2) := by decide +kernel
theorem dD_one_60 : decode mD_one.2.1 60 = .ok (.invokevirtual 70, 3) := by decide +kernel
theorem dD_one_63 : decode mD_one.2.1 63 = .ok (.ireturn, 1) := by decide +kernel
theorem dD_addedBy_0 : decode mD_addedBy.2.1 0 = .ok (.aload_n 0, 1) := by decide +kernel
theorem dD_addedBy_1 : decode mD_addedBy.2.1 1 = .ok (.getfield 12, 3) := by decide +kernel
theorem dD_addedBy_4 : decode mD_addedBy.2.1 4 = .ok (.getfield 148, 3) := by decide +kernel
theorem dD_addedBy_7 : decode mD_addedBy.2.1 7 = .ok (.iload_n 1, 1) := by decide +kernel
theorem dD_addedBy_8 : decode mD_addedBy.2.1 8 = .ok (.iload_n 2, 1) := by decide +kernel
theorem dD_addedBy_9 : decode mD_addedBy.2.1 9 = .ok (.invokevirtual 359, 3) := by decide +kernel
theorem dD_addedBy_12 : decode mD_addedBy.2.1 12 = .ok (.istore_n 3, 1) := by decide +kernel
theorem dD_addedBy_13 : decode mD_addedBy.2.1 13 = .ok (.aload_n 0, 1) := by decide +kernel
theorem dD_addedBy_14 : decode mD_addedBy.2.1 14 = .ok (.iload_n 3, 1) := by decide +kernel
theorem dD_addedBy_15 : decode mD_addedBy.2.1 15 = .ok (.iconst 1, 1) := by decide +kernel
theorem dD_addedBy_16 : decode mD_addedBy.2.1 16 = .ok (.iload_n 1, 1) := by decide +kernel
theorem dD_addedBy_17 : decode mD_addedBy.2.1 17 = .ok (.ishl, 1) := by decide +kernel
theorem dD_addedBy_18 : decode mD_addedBy.2.1 18 = .ok (.ior, 1) := by decide +kernel
theorem dD_addedBy_19 : decode mD_addedBy.2.1 19 = .ok (.iconst 1, 1) := by decide +kernel
theorem dD_addedBy_20 : decode mD_addedBy.2.1 20 = .ok (.iload_n 1, 1) := by decide +kernel
theorem dD_addedBy_21 : decode mD_addedBy.2.1 21 = .ok (.ishl, 1) := by decide +kernel
theorem dD_addedBy_22 : decode mD_addedBy.2.1 22 = .ok (.invokevirtual 215, 3) := by decide +kernel
theorem dD_addedBy_25 : decode mD_addedBy.2.1 25 = .ok (.ireturn, 1) := by decide +kernel
theorem dD_lostBy_0 : decode mD_lostBy.2.1 0 = .ok (.aload_n 0, 1) := by decide +kernel
theorem dD_lostBy_1 : decode mD_lostBy.2.1 1 = .ok (.iload_n 1, 1) := by decide +kernel
theorem dD_lostBy_2 : decode mD_lostBy.2.1 2 = .ok (.invokevirtual 192, 3) := by decide +kernel
theorem dD_lostBy_5 : decode mD_lostBy.2.1 5 = .ok (.aload_n 0, 1) := by decide +kernel
theorem dD_lostBy_6 : decode mD_lostBy.2.1 6 = .ok (.iload_n 1, 1) := by decide +kernel
theorem dD_lostBy_7 : decode mD_lostBy.2.1 7 = .ok (.iload_n 2, 1) := by decide +kernel
theorem dD_lostBy_8 : decode mD_lostBy.2.1 8 = .ok (.iconst (-1), 1) := by decide +kernel
theorem dD_lostBy_9 : decode mD_lostBy.2.1 9 = .ok (.ixor, 1) := by decide +kernel
theorem dD_lostBy_10 : decode mD_lostBy.2.1 10 = .ok (.iand, 1) := by decide +kernel
theorem dD_lostBy_11 : decode mD_lostBy.2.1 11 = .ok (.invokevirtual 192, 3) := by decide +kernel
theorem dD_lostBy_14 : decode mD_lostBy.2.1 14 = .ok (.isub, 1) := by decide +kernel
theorem dD_lostBy_15 : decode mD_lostBy.2.1 15 = .ok (.ireturn, 1) := by decide +kernel
theorem dD_without_0 : decode mD_without.2.1 0 = .ok (.aload_n 0, 1) := by decide +kernel
theorem dD_without_1 : decode mD_without.2.1 1 = .ok (.getfield 12, 3) := by decide +kernel
theorem dD_without_4 : decode mD_without.2.1 4 = .ok (.getfield 148, 3) := by decide +kernel
theorem dD_without_7 : decode mD_without.2.1 7 = .ok (.iload_n 1, 1) := by decide +kernel
theorem dD_without_8 : decode mD_without.2.1 8 = .ok (.invokevirtual 158, 3) := by decide +kernel
theorem dD_without_11 : decode mD_without.2.1 11 = .ok (.ifCond .eq 10, 3) := by decide +kernel
theorem dD_without_14 : decode mD_without.2.1 14 = .ok (.iload_n 2, 1) := by decide +kernel
theorem dD_without_15 : decode mD_without.2.1 15 = .ok (.invokestatic 180, 3) := by decide +kernel
theorem dD_without_18 : decode mD_without.2.1 18 = .ok (.ifCond .ne 10, 3) := by decide +kernel
theorem dD_without_21 : decode mD_without.2.1 21 = .ok (.aload_n 0, 1) := by decide +kernel
theorem dD_without_22 : decode mD_without.2.1 22 = .ok (.ldc 69, 2) := by decide +kernel
theorem dD_without_24 : decode mD_without.2.1 24 = .ok (.invokevirtual 70, 3) := by decide +kernel
theorem dD_without_27 : decode mD_without.2.1 27 = .ok (.ireturn, 1) := by decide +kernel
theorem dD_without_28 : decode mD_without.2.1 28 = .ok (.aload_n 0, 1) := by decide +kernel
theorem dD_without_29 : decode mD_without.2.1 29 = .ok (.getfield 12, 3) := by decide +kernel
theorem dD_without_32 : decode mD_without.2.1 32 = .ok (.getfield 148, 3) := by decide +kernel
theorem dD_without_35 : decode mD_without.2.1 35 = .ok (.iload_n 2, 1) := by decide +kernel
theorem dD_without_36 : decode mD_without.2.1 36 = .ok (.invokevirtual 183, 3) := by decide +kernel
theorem dD_without_39 : decode mD_without.2.1 39 = .ok (.istore_n 3, 1) := by decide +kernel
theorem dD_without_40 : decode mD_without.2.1 40 = .ok (.iload_n 3, 1) := by decide +kernel
theorem dD_without_41 : decode mD_without.2.1 41 = .ok (.iload_n 1, 1) := by decide +kernel
theorem dD_without_42 : decode mD_without.2.1 42 = .ok (.invokestatic 209, 3) := by decide +kernel
theorem dD_without_45 : decode mD_without.2.1 45 = .ok (.ifCond .eq 14, 3) := by decide +kernel
theorem dD_without_48 : decode mD_without.2.1 48 = .ok (.aload_n 0, 1) := by decide +kernel
theorem dD_without_49 : decode mD_without.2.1 49 = .ok (.iload_n 3, 1) := by decide +kernel
theorem dD_without_50 : decode mD_without.2.1 50 = .ok (.iconst 1, 1) := by decide +kernel
theorem dD_without_51 : decode mD_without.2.1 51 = .ok (.iload_n 1, 1) := by decide +kernel
theorem dD_without_52 : decode mD_without.2.1 52 = .ok (.ishl, 1) := by decide +kernel
theorem dD_without_53 : decode mD_without.2.1 53 = .ok (.invokevirtual 215, 3) := by decide +kernel
theorem dD_without_56 : decode mD_without.2.1 56 = .ok (.goto 9, 3) := by decide +kernel
theorem dD_without_59 : decode mD_without.2.1 59 = .ok (.aload_n 0, 1) := by decide +kernel
theorem dD_without_60 : decode mD_without.2.1 60 = .ok (.ldc 125, 2) := by decide +kernel
theorem dD_without_62 : decode mD_without.2.1 62 = .ok (.invokevirtual 70, 3) := by decide +kernel
theorem dD_without_65 : decode mD_without.2.1 65 = .ok (.ireturn, 1) := by decide +kernel
theorem dD_butFor_0 : decode mD_butFor.2.1 0 = .ok (.iload_n 1, 1) := by decide +kernel
theorem dD_butFor_1 : decode mD_butFor.2.1 1 = .ok (.invokestatic 145, 3) := by decide +kernel
theorem dD_butFor_4 : decode mD_butFor.2.1 4 = .ok (.ifCond .eq 10, 3) := by decide +kernel
theorem dD_butFor_7 : decode mD_butFor.2.1 7 = .ok (.iload_n 2, 1) := by decide +kernel
theorem dD_butFor_8 : decode mD_butFor.2.1 8 = .ok (.invokestatic 180, 3) := by decide +kernel
theorem dD_butFor_11 : decode mD_butFor.2.1 11 = .ok (.ifCond .ne 10, 3) := by decide +kernel
theorem dD_butFor_14 : decode mD_butFor.2.1 14 = .ok (.aload_n 0, 1) := by decide +kernel
theorem dD_butFor_15 : decode mD_butFor.2.1 15 = .ok (.ldc 69, 2) := by decide +kernel
theorem dD_butFor_17 : decode mD_butFor.2.1 17 = .ok (.invokevirtual 70, 3) := by decide +kernel
theorem dD_butFor_20 : decode mD_butFor.2.1 20 = .ok (.ireturn, 1) := by decide +kernel
theorem dD_butFor_21 : decode mD_butFor.2.1 21 = .ok (.aload_n 0, 1) := by decide +kernel
theorem dD_butFor_22 : decode mD_butFor.2.1 22 = .ok (.getfield 12, 3) := by decide +kernel
theorem dD_butFor_25 : decode mD_butFor.2.1 25 = .ok (.getfield 148, 3) := by decide +kernel
theorem dD_butFor_28 : decode mD_butFor.2.1 28 = .ok (.iload_n 2, 1) := by decide +kernel
theorem dD_butFor_29 : decode mD_butFor.2.1 29 = .ok (.invokevirtual 183, 3) := by decide +kernel
theorem dD_butFor_32 : decode mD_butFor.2.1 32 = .ok (.istore_n 3, 1) := by decide +kernel
theorem dD_butFor_33 : decode mD_butFor.2.1 33 = .ok (.aload_n 0, 1) := by decide +kernel
theorem dD_butFor_34 : decode mD_butFor.2.1 34 = .ok (.iload_n 3, 1) := by decide +kernel
theorem dD_butFor_35 : decode mD_butFor.2.1 35 = .ok (.aload_n 0, 1) := by decide +kernel
theorem dD_butFor_36 : decode mD_butFor.2.1 36 = .ok (.getfield 12, 3) := by decide +kernel
theorem dD_butFor_39 : decode mD_butFor.2.1 39 = .ok (.getfield 148, 3) := by decide +kernel
theorem dD_butFor_42 : decode mD_butFor.2.1 42 = .ok (.iload_n 3, 1) := by decide +kernel
theorem dD_butFor_43 : decode mD_butFor.2.1 43 = .ok (.iload_n 1, 1) := by decide +kernel
theorem dD_butFor_44 : decode mD_butFor.2.1 44 = .ok (.invokevirtual 218, 3) := by decide +kernel
theorem dD_butFor_47 : decode mD_butFor.2.1 47 = .ok (.invokevirtual 215, 3) := by decide +kernel
theorem dD_butFor_50 : decode mD_butFor.2.1 50 = .ok (.ireturn, 1) := by decide +kernel
theorem dD_window_0 : decode mD_window.2.1 0 = .ok (.iload_n 1, 1) := by decide +kernel
theorem dD_window_1 : decode mD_window.2.1 1 = .ok (.iconst 5, 1) := by decide +kernel
theorem dD_window_2 : decode mD_window.2.1 2 = .ok (.bipush 100, 2) := by decide +kernel
theorem dD_window_4 : decode mD_window.2.1 4 = .ok (.invokestatic 65, 3) := by decide +kernel
theorem dD_window_7 : decode mD_window.2.1 7 = .ok (.ifCond .eq 18, 3) := by decide +kernel
theorem dD_window_10 : decode mD_window.2.1 10 = .ok (.iload_n 2, 1) := by decide +kernel
theorem dD_window_11 : decode mD_window.2.1 11 = .ok (.iconst 0, 1) := by decide +kernel
theorem dD_window_12 : decode mD_window.2.1 12 = .ok (.sipush 179, 3) := by decide +kernel
theorem dD_window_15 : decode mD_window.2.1 15 = .ok (.invokestatic 65, 3) := by decide +kernel
theorem dD_window_18 : decode mD_window.2.1 18 = .ok (.ifCond .eq 7, 3) := by decide +kernel
theorem dD_window_21 : decode mD_window.2.1 21 = .ok (.iconst 1, 1) := by decide +kernel
theorem dD_window_22 : decode mD_window.2.1 22 = .ok (.goto 4, 3) := by decide +kernel
theorem dD_window_25 : decode mD_window.2.1 25 = .ok (.iconst 0, 1) := by decide +kernel
theorem dD_window_26 : decode mD_window.2.1 26 = .ok (.istore 5, 2) := by decide +kernel
theorem dD_window_28 : decode mD_window.2.1 28 = .ok (.iload 5, 2) := by decide +kernel
theorem dD_window_30 : decode mD_window.2.1 30 = .ok (.ifCond .eq 20, 3) := by decide +kernel
theorem dD_window_33 : decode mD_window.2.1 33 = .ok (.iload_n 3, 1) := by decide +kernel
theorem dD_window_34 : decode mD_window.2.1 34 = .ok (.iconst (-1), 1) := by decide +kernel
theorem dD_window_35 : decode mD_window.2.1 35 = .ok (.iconst 3, 1) := by decide +kernel
theorem dD_window_36 : decode mD_window.2.1 36 = .ok (.invokestatic 65, 3) := by decide +kernel
theorem dD_window_39 : decode mD_window.2.1 39 = .ok (.ifCond .eq 11, 3) := by decide +kernel
theorem dD_window_42 : decode mD_window.2.1 42 = .ok (.iload 4, 2) := by decide +kernel
theorem dD_window_44 : decode mD_window.2.1 44 = .ok (.invokestatic 180, 3) := by decide +kernel
theorem dD_window_47 : decode mD_window.2.1 47 = .ok (.ifCond .ne 10, 3) := by decide +kernel
theorem dD_window_50 : decode mD_window.2.1 50 = .ok (.aload_n 0, 1) := by decide +kernel
theorem dD_window_51 : decode mD_window.2.1 51 = .ok (.ldc 69, 2) := by decide +kernel
theorem dD_window_53 : decode mD_window.2.1 53 = .ok (.invokevirtual 70, 3) := by decide +kernel
theorem dD_window_56 : decode mD_window.2.1 56 = .ok (.ireturn, 1) := by decide +kernel
theorem dD_window_57 : decode mD_window.2.1 57 = .ok (.aload_n 0, 1) := by decide +kernel
theorem dD_window_58 : decode mD_window.2.1 58 = .ok (.getfield 12, 3) := by decide +kernel
theorem dD_window_61 : decode mD_window.2.1 61 = .ok (.getfield 148, 3) := by decide +kernel
theorem dD_window_64 : decode mD_window.2.1 64 = .ok (.iload 4, 2) := by decide +kernel
theorem dD_window_66 : decode mD_window.2.1 66 = .ok (.invokevirtual 183, 3) := by decide +kernel
theorem dD_window_69 : decode mD_window.2.1 69 = .ok (.istore 6, 2) := by decide +kernel
theorem dD_window_71 : decode mD_window.2.1 71 = .ok (.aload_n 0, 1) := by decide +kernel
theorem dD_window_72 : decode mD_window.2.1 72 = .ok (.getfield 12, 3) := by decide +kernel
theorem dD_window_75 : decode mD_window.2.1 75 = .ok (.getfield 148, 3) := by decide +kernel
theorem dD_window_78 : decode mD_window.2.1 78 = .ok (.iload 6, 2) := by decide +kernel
theorem dD_window_80 : decode mD_window.2.1 80 = .ok (.iload_n 2, 1) := by decide +kernel
theorem dD_window_81 : decode mD_window.2.1 81 = .ok (.iload_n 1, 1) := by decide +kernel
theorem dD_window_82 : decode mD_window.2.1 82 = .ok (.imul, 1) := by decide +kernel
theorem dD_window_83 : decode mD_window.2.1 83 = .ok (.iload_n 1, 1) := by decide +kernel
theorem dD_window_84 : decode mD_window.2.1 84 = .ok (.iadd, 1) := by decide +kernel
theorem dD_window_85 : decode mD_window.2.1 85 = .ok (.iconst 1, 1) := by decide +kernel
theorem dD_window_86 : decode mD_window.2.1 86 = .ok (.isub, 1) := by decide +kernel
theorem dD_window_87 : decode mD_window.2.1 87 = .ok (.invokevirtual 221, 3) := by decide +kernel
theorem dD_window_90 : decode mD_window.2.1 90 = .ok (.istore 7, 2) := by decide +kernel
theorem dD_window_92 : decode mD_window.2.1 92 = .ok (.iload 7, 2) := by decide +kernel
theorem dD_window_94 : decode mD_window.2.1 94 = .ok (.aload_n 0, 1) := by decide +kernel
theorem dD_window_95 : decode mD_window.2.1 95 = .ok (.getfield 12, 3) := by decide +kernel
theorem dD_window_98 : decode mD_window.2.1 98 = .ok (.getfield 148, 3) := by decide +kernel
theorem dD_window_101 : decode mD_window.2.1 101 = .ok (.iload 6, 2) := by decide +kernel
theorem dD_window_103 : decode mD_window.2.1 103 = .ok (.iload_n 2, 1) := by decide +kernel
theorem dD_window_104 : decode mD_window.2.1 104 = .ok (.iload_n 1, 1) := by decide +kernel
theorem dD_window_105 : decode mD_window.2.1 105 = .ok (.imul, 1) := by decide +kernel
theorem dD_window_106 : decode mD_window.2.1 106 = .ok (.iconst 1, 1) := by decide +kernel
theorem dD_window_107 : decode mD_window.2.1 107 = .ok (.isub, 1) := by decide +kernel
theorem dD_window_108 : decode mD_window.2.1 108 = .ok (.invokevirtual 221, 3) := by decide +kernel
theorem dD_window_111 : decode mD_window.2.1 111 = .ok (.iconst (-1), 1) := by decide +kernel
theorem dD_window_112 : decode mD_window.2.1 112 = .ok (.ixor, 1) := by decide +kernel
theorem dD_window_113 : decode mD_window.2.1 113 = .ok (.iand, 1) := by decide +kernel
theorem dD_window_114 : decode mD_window.2.1 114 = .ok (.istore 8, 2) := by decide +kernel
theorem dD_window_116 : decode mD_window.2.1 116 = .ok (.aload_n 0, 1) := by decide +kernel
theorem dD_window_117 : decode mD_window.2.1 117 = .ok (.iload 7, 2) := by decide +kernel
theorem dD_window_119 : decode mD_window.2.1 119 = .ok (.iload 8, 2) := by decide +kernel
theorem dD_window_121 : decode mD_window.2.1 121 = .ok (.invokevirtual 215, 3) := by decide +kernel
theorem dD_window_124 : decode mD_window.2.1 124 = .ok (.istore 9, 2) := by decide +kernel
theorem dD_window_126 : decode mD_window.2.1 126 = .ok (.iload_n 3, 1) := by decide +kernel
theorem dD_window_127 : decode mD_window.2.1 127 = .ok (.ifCond .ge 8, 3) := by decide +kernel
theorem dD_window_130 : decode mD_window.2.1 130 = .ok (.iload 9, 2) := by decide +kernel
theorem dD_window_132 : decode mD_window.2.1 132 = .ok (.goto 12, 3) := by decide +kernel
theorem dD_window_135 : decode mD_window.2.1 135 = .ok (.aload_n 0, 1) := by decide +kernel
theorem dD_window_136 : decode mD_window.2.1 136 = .ok (.iload_n 3, 1) := by decide +kernel
theorem dD_window_137 : decode mD_window.2.1 137 = .ok (.iload 9, 2) := by decide +kernel
theorem dD_window_139 : decode mD_window.2.1 139 = .ok (.iload 8, 2) := by decide +kernel
theorem dD_window_141 : decode mD_window.2.1 141 = .ok (.invokevirtual 224, 3) := by decide +kernel
theorem dD_window_144 : decode mD_window.2.1 144 = .ok (.ireturn, 1) := by decide +kernel
theorem dD_partOf_0 : decode mD_partOf.2.1 0 = .ok (.aload_n 0, 1) := by decide +kernel
theorem dD_partOf_1 : decode mD_partOf.2.1 1 = .ok (.getfield 12, 3) := by decide +kernel
theorem dD_partOf_4 : decode mD_partOf.2.1 4 = .ok (.getfield 148, 3) := by decide +kernel
theorem dD_partOf_7 : decode mD_partOf.2.1 7 = .ok (.astore 4, 2) := by decide +kernel
theorem dD_partOf_9 : decode mD_partOf.2.1 9 = .ok (.aload 4, 2) := by decide +kernel
theorem dD_partOf_11 : decode mD_partOf.2.1 11 = .ok (.iload_n 3, 1) := by decide +kernel
theorem dD_partOf_12 : decode mD_partOf.2.1 12 = .ok (.invokevirtual 362, 3) := by decide +kernel
theorem dD_partOf_15 : decode mD_partOf.2.1 15 = .ok (.istore 5, 2) := by decide +kernel
theorem dD_partOf_17 : decode mD_partOf.2.1 17 = .ok (.iload 5, 2) := by decide +kernel
theorem dD_partOf_19 : decode mD_partOf.2.1 19 = .ok (.ifCond .gt 5, 3) := by decide +kernel
theorem dD_partOf_22 : decode mD_partOf.2.1 22 = .ok (.iconst 0, 1) := by decide +kernel
theorem dD_partOf_23 : decode mD_partOf.2.1 23 = .ok (.ireturn, 1) := by decide +kernel
theorem dD_partOf_24 : decode mD_partOf.2.1 24 = .ok (.iload_n 2, 1) := by decide +kernel
theorem dD_partOf_25 : decode mD_partOf.2.1 25 = .ok (.aload 4, 2) := by decide +kernel
theorem dD_partOf_27 : decode mD_partOf.2.1 27 = .ok (.aload 4, 2) := by decide +kernel
theorem dD_partOf_29 : decode mD_partOf.2.1 29 = .ok (.iload_n 3, 1) := by decide +kernel
theorem dD_partOf_30 : decode mD_partOf.2.1 30 = .ok (.iload_n 1, 1) := by decide +kernel
theorem dD_partOf_31 : decode mD_partOf.2.1 31 = .ok (.invokevirtual 218, 3) := by decide +kernel
theorem dD_partOf_34 : decode mD_partOf.2.1 34 = .ok (.invokevirtual 362, 3) := by decide +kernel
theorem dD_partOf_37 : decode mD_partOf.2.1 37 = .ok (.imul, 1) := by decide +kernel
theorem dD_partOf_38 : decode mD_partOf.2.1 38 = .ok (.istore 6, 2) := by decide +kernel
theorem dD_partOf_40 : decode mD_partOf.2.1 40 = .ok (.iload_n 2, 1) := by decide +kernel
theorem dD_partOf_41 : decode mD_partOf.2.1 41 = .ok (.istore 7, 2) := by decide +kernel
theorem dD_partOf_43 : decode mD_partOf.2.1 43 = .ok (.iconst 0, 1) := by decide +kernel
theorem dD_partOf_44 : decode mD_partOf.2.1 44 = .ok (.istore 8, 2) := by decide +kernel
theorem dD_partOf_46 : decode mD_partOf.2.1 46 = .ok (.iconst 0, 1) := by decide +kernel
theorem dD_partOf_47 : decode mD_partOf.2.1 47 = .ok (.istore 9, 2) := by decide +kernel
theorem dD_partOf_49 : decode mD_partOf.2.1 49 = .ok (.iload 9, 2) := by decide +kernel
theorem dD_partOf_51 : decode mD_partOf.2.1 51 = .ok (.iconst 4, 1) := by decide +kernel
theorem dD_partOf_52 : decode mD_partOf.2.1 52 = .ok (.if_icmp .ge 83, 3) := by decide +kernel
theorem dD_partOf_55 : decode mD_partOf.2.1 55 = .ok (.iload_n 2, 1) := by decide +kernel
theorem dD_partOf_56 : decode mD_partOf.2.1 56 = .ok (.aload 4, 2) := by decide +kernel
theorem dD_partOf_58 : decode mD_partOf.2.1 58 = .ok (.aload 4, 2) := by decide +kernel
theorem dD_partOf_60 : decode mD_partOf.2.1 60 = .ok (.iload_n 3, 1) := by decide +kernel
theorem dD_partOf_61 : decode mD_partOf.2.1 61 = .ok (.iload 9, 2) := by decide +kernel
theorem dD_partOf_63 : decode mD_partOf.2.1 63 = .ok (.invokevirtual 218, 3) := by decide +kernel
theorem dD_partOf_66 : decode mD_partOf.2.1 66 = .ok (.invokevirtual 362, 3) := by decide +kernel
theorem dD_partOf_69 : decode mD_partOf.2.1 69 = .ok (.imul, 1) := by decide +kernel
theorem dD_partOf_70 : decode mD_partOf.2.1 70 = .ok (.istore 10, 2) := by decide +kernel
theorem dD_partOf_72 : decode mD_partOf.2.1 72 = .ok (.iload 7, 2) := by decide +kernel
theorem dD_partOf_74 : decode mD_partOf.2.1 74 = .ok (.iload 10, 2) := by decide +kernel
theorem dD_partOf_76 : decode mD_partOf.2.1 76 = .ok (.iload 5, 2) := by decide +kernel
theorem dD_partOf_78 : decode mD_partOf.2.1 78 = .ok (.idiv, 1) := by decide +kernel
theorem dD_partOf_79 : decode mD_partOf.2.1 79 = .ok (.isub, 1) := by decide +kernel
theorem dD_partOf_80 : decode mD_partOf.2.1 80 = .ok (.istore 7, 2) := by decide +kernel
theorem dD_partOf_82 : decode mD_partOf.2.1 82 = .ok (.iload 10, 2) := by decide +kernel
theorem dD_partOf_84 : decode mD_partOf.2.1 84 = .ok (.iload 5, 2) := by decide +kernel
theorem dD_partOf_86 : decode mD_partOf.2.1 86 = .ok (.irem, 1) := by decide +kernel
theorem dD_partOf_87 : decode mD_partOf.2.1 87 = .ok (.iload 6, 2) := by decide +kernel
theorem dD_partOf_89 : decode mD_partOf.2.1 89 = .ok (.iload 5, 2) := by decide +kernel
theorem dD_partOf_91 : decode mD_partOf.2.1 91 = .ok (.irem, 1) := by decide +kernel
theorem dD_partOf_92 : decode mD_partOf.2.1 92 = .ok (.if_icmp .ne 13, 3) := by decide +kernel
theorem dD_partOf_95 : decode mD_partOf.2.1 95 = .ok (.iload 9, 2) := by decide +kernel
theorem dD_partOf_97 : decode mD_partOf.2.1 97 = .ok (.iload_n 1, 1) := by decide +kernel
theorem dD_partOf_98 : decode mD_partOf.2.1 98 = .ok (.if_icmp .ge 7, 3) := by decide +kernel
theorem dD_partOf_101 : decode mD_partOf.2.1 101 = .ok (.iconst 1, 1) := by decide +kernel
theorem dD_partOf_102 : decode mD_partOf.2.1 102 = .ok (.goto 4, 3) := by decide +kernel
theorem dD_partOf_105 : decode mD_partOf.2.1 105 = .ok (.iconst 0, 1) := by decide +kernel
theorem dD_partOf_106 : decode mD_partOf.2.1 106 = .ok (.istore 11, 2) := by decide +kernel
theorem dD_partOf_108 : decode mD_partOf.2.1 108 = .ok (.iload 10, 2) := by decide +kernel
theorem dD_partOf_110 : decode mD_partOf.2.1 110 = .ok (.iload 5, 2) := by decide +kernel
theorem dD_partOf_112 : decode mD_partOf.2.1 112 = .ok (.irem, 1) := by decide +kernel
theorem dD_partOf_113 : decode mD_partOf.2.1 113 = .ok (.iload 6, 2) := by decide +kernel
theorem dD_partOf_115 : decode mD_partOf.2.1 115 = .ok (.iload 5, 2) := by decide +kernel
theorem dD_partOf_117 : decode mD_partOf.2.1 117 = .ok (.irem, 1) := by decide +kernel
theorem dD_partOf_118 : decode mD_partOf.2.1 118 = .ok (.if_icmp .gt 8, 3) := by decide +kernel
theorem dD_partOf_121 : decode mD_partOf.2.1 121 = .ok (.iload 11, 2) := by decide +kernel
theorem dD_partOf_123 : decode mD_partOf.2.1 123 = .ok (.ifCond .eq 6, 3) := by decide +kernel
theorem dD_partOf_126 : decode mD_partOf.2.1 126 = .ok (.iinc 8 1, 3) := by decide +kernel
theorem dD_partOf_129 : decode mD_partOf.2.1 129 = .ok (.iinc 9 1, 3) := by decide +kernel
theorem dD_partOf_132 : decode mD_partOf.2.1 132 = .ok (.goto (-83), 3) := by decide +kernel
theorem dD_partOf_135 : decode mD_partOf.2.1 135 = .ok (.iload 6, 2) := by decide +kernel
theorem dD_partOf_137 : decode mD_partOf.2.1 137 = .ok (.iload 5, 2) := by decide +kernel
theorem dD_partOf_139 : decode mD_partOf.2.1 139 = .ok (.idiv, 1) := by decide +kernel
theorem dD_partOf_140 : decode mD_partOf.2.1 140 = .ok (.iload 8, 2) := by decide +kernel
theorem dD_partOf_142 : decode mD_partOf.2.1 142 = .ok (.iload 7, 2) := by decide +kernel
theorem dD_partOf_144 : decode mD_partOf.2.1 144 = .ok (.if_icmp .ge 7, 3) := by decide +kernel
theorem dD_partOf_147 : decode mD_partOf.2.1 147 = .ok (.iconst 1, 1) := by decide +kernel
theorem dD_partOf_148 : decode mD_partOf.2.1 148 = .ok (.goto 4, 3) := by decide +kernel
theorem dD_partOf_151 : decode mD_partOf.2.1 151 = .ok (.iconst 0, 1) := by decide +kernel
theorem dD_partOf_152 : decode mD_partOf.2.1 152 = .ok (.iadd, 1) := by decide +kernel
theorem dD_partOf_153 : decode mD_partOf.2.1 153 = .ok (.ireturn, 1) := by decide +kernel
theorem dD_feed_0 : decode mD_feed.2.1 0 = .ok (.iload_n 3, 1) := by decide +kernel
theorem dD_feed_1 : decode mD_feed.2.1 1 = .ok (.iconst 1, 1) := by decide +kernel
theorem dD_feed_2 : decode mD_feed.2.1 2 = .ok (.bipush 8, 2) := by decide +kernel
theorem dD_feed_4 : decode mD_feed.2.1 4 = .ok (.invokestatic 65, 3) := by decide +kernel
theorem dD_feed_7 : decode mD_feed.2.1 7 = .ok (.ifCond .ne 10, 3) := by decide +kernel
theorem dD_feed_10 : decode mD_feed.2.1 10 = .ok (.aload_n 0, 1) := by decide +kernel
theorem dD_feed_11 : decode mD_feed.2.1 11 = .ok (.ldc 69, 2) := by decide +kernel
theorem dD_feed_13 : decode mD_feed.2.1 13 = .ok (.invokevirtual 70, 3) := by decide +kernel
theorem dD_feed_16 : decode mD_feed.2.1 16 = .ok (.ireturn, 1) := by decide +kernel
theorem dD_feed_17 : decode mD_feed.2.1 17 = .ok (.aload_n 0, 1) := by decide +kernel
theorem dD_feed_18 : decode mD_feed.2.1 18 = .ok (.getfield 12, 3) := by decide +kernel
theorem dD_feed_21 : decode mD_feed.2.1 21 = .ok (.getfield 227, 3) := by decide +kernel
theorem dD_feed_24 : decode mD_feed.2.1 24 = .ok (.getfield 231, 3) := by decide +kernel
theorem dD_feed_27 : decode mD_feed.2.1 27 = .ok (.iload_n 3, 1) := by decide +kernel
theorem dD_feed_28 : decode mD_feed.2.1 28 = .ok (.iadd, 1) := by decide +kernel
theorem dD_feed_29 : decode mD_feed.2.1 29 = .ok (.bipush 60, 2) := by decide +kernel
theorem dD_feed_31 : decode mD_feed.2.1 31 = .ok (.if_icmp .le 10, 3) := by decide +kernel
theorem dD_feed_34 : decode mD_feed.2.1 34 = .ok (.aload_n 0, 1) := by decide +kernel
theorem dD_feed_35 : decode mD_feed.2.1 35 = .ok (.ldc 83, 2) := by decide +kernel
theorem dD_feed_37 : decode mD_feed.2.1 37 = .ok (.invokevirtual 70, 3) := by decide +kernel
theorem dD_feed_40 : decode mD_feed.2.1 40 = .ok (.ireturn, 1) := by decide +kernel
theorem dD_feed_41 : decode mD_feed.2.1 41 = .ok (.aload_n 0, 1) := by decide +kernel
theorem dD_feed_42 : decode mD_feed.2.1 42 = .ok (.getfield 12, 3) := by decide +kernel
theorem dD_feed_45 : decode mD_feed.2.1 45 = .ok (.getfield 227, 3) := by decide +kernel
theorem dD_feed_48 : decode mD_feed.2.1 48 = .ok (.lload_n 1, 1) := by decide +kernel
theorem dD_feed_49 : decode mD_feed.2.1 49 = .ok (.iload_n 3, 1) := by decide +kernel
theorem dD_feed_50 : decode mD_feed.2.1 50 = .ok (.invokevirtual 236, 3) := by decide +kernel
theorem dD_feed_53 : decode mD_feed.2.1 53 = .ok (.ireturn, 1) := by decide +kernel
theorem dD_clause_0 : decode mD_clause.2.1 0 = .ok (.aload_n 0, 1) := by decide +kernel
theorem dD_clause_1 : decode mD_clause.2.1 1 = .ok (.getfield 12, 3) := by decide +kernel
theorem dD_clause_4 : decode mD_clause.2.1 4 = .ok (.getfield 227, 3) := by decide +kernel
theorem dD_clause_7 : decode mD_clause.2.1 7 = .ok (.astore_n 3, 1) := by decide +kernel
theorem dD_clause_8 : decode mD_clause.2.1 8 = .ok (.iload_n 1, 1) := by decide +kernel
theorem dD_clause_9 : decode mD_clause.2.1 9 = .ok (.invokestatic 240, 3) := by decide +kernel
theorem dD_clause_12 : decode mD_clause.2.1 12 = .ok (.ifCond .eq 10, 3) := by decide +kernel
theorem dD_clause_15 : decode mD_clause.2.1 15 = .ok (.iload_n 2, 1) := by decide +kernel
theorem dD_clause_16 : decode mD_clause.2.1 16 = .ok (.invokestatic 180, 3) := by decide +kernel
theorem dD_clause_19 : decode mD_clause.2.1 19 = .ok (.ifCond .ne 10, 3) := by decide +kernel
theorem dD_clause_22 : decode mD_clause.2.1 22 = .ok (.aload_n 0, 1) := by decide +kernel
theorem dD_clause_23 : decode mD_clause.2.1 23 = .ok (.ldc 69, 2) := by decide +kernel
theorem dD_clause_25 : decode mD_clause.2.1 25 = .ok (.invokevirtual 70, 3) := by decide +kernel
theorem dD_clause_28 : decode mD_clause.2.1 28 = .ok (.ireturn, 1) := by decide +kernel
theorem dD_clause_29 : decode mD_clause.2.1 29 = .ok (.aload_n 3, 1) := by decide +kernel
theorem dD_clause_30 : decode mD_clause.2.1 30 = .ok (.getfield 243, 3) := by decide +kernel
theorem dD_clause_33 : decode mD_clause.2.1 33 = .ok (.bipush 10, 2) := by decide +kernel
theorem dD_clause_35 : decode mD_clause.2.1 35 = .ok (.if_icmp .lt 10, 3) := by decide +kernel
theorem dD_clause_38 : decode mD_clause.2.1 38 = .ok (.aload_n 0, 1) := by decide +kernel
theorem dD_clause_39 : decode mD_clause.2.1 39 = .ok (.ldc 83, 2) := by decide +kernel
theorem dD_clause_41 : decode mD_clause.2.1 41 = .ok (.invokevirtual 70, 3) := by decide +kernel
theorem dD_clause_44 : decode mD_clause.2.1 44 = .ok (.ireturn, 1) := by decide +kernel
theorem dD_clause_45 : decode mD_clause.2.1 45 = .ok (.aload_n 0, 1) := by decide +kernel
theorem dD_clause_46 : decode mD_clause.2.1 46 = .ok (.getfield 29, 3) := by decide +kernel
theorem dD_clause_49 : decode mD_clause.2.1 49 = .ok (.aload_n 3, 1) := by decide +kernel
theorem dD_clause_50 : decode mD_clause.2.1 50 = .ok (.getfield 244, 3) := by decide +kernel
theorem dD_clause_53 : decode mD_clause.2.1 53 = .ok (.iconst 0, 1) := by decide +kernel
theorem dD_clause_54 : decode mD_clause.2.1 54 = .ok (.aload_n 3, 1) := by decide +kernel
theorem dD_clause_55 : decode mD_clause.2.1 55 = .ok (.getfield 231, 3) := by decide +kernel
theorem dD_clause_58 : decode mD_clause.2.1 58 = .ok (.invokevirtual 248, 3) := by decide +kernel
theorem dD_clause_61 : decode mD_clause.2.1 61 = .ok (.pop, 1) := by decide +kernel
theorem dD_clause_62 : decode mD_clause.2.1 62 = .ok (.aload_n 0, 1) := by decide +kernel
theorem dD_clause_63 : decode mD_clause.2.1 63 = .ok (.getfield 29, 3) := by decide +kernel
theorem dD_clause_66 : decode mD_clause.2.1 66 = .ok (.invokevirtual 252, 3) := by decide +kernel
theorem dD_clause_69 : decode mD_clause.2.1 69 = .ok (.istore 4, 2) := by decide +kernel
theorem dD_clause_71 : decode mD_clause.2.1 71 = .ok (.iload 4, 2) := by decide +kernel
theorem dD_clause_73 : decode mD_clause.2.1 73 = .ok (.ifCond .lt 14, 3) := by decide +kernel
theorem dD_clause_76 : decode mD_clause.2.1 76 = .ok (.aload_n 3, 1) := by decide +kernel
theorem dD_clause_77 : decode mD_clause.2.1 77 = .ok (.iconst 0, 1) := by decide +kernel
theorem dD_clause_78 : decode mD_clause.2.1 78 = .ok (.putfield 231, 3) := by decide +kernel
theorem dD_clause_81 : decode mD_clause.2.1 81 = .ok (.bipush (-10), 2) := by decide +kernel
theorem dD_clause_83 : decode mD_clause.2.1 83 = .ok (.iload 4, 2) := by decide +kernel
theorem dD_clause_85 : decode mD_clause.2.1 85 = .ok (.isub, 1) := by decide +kernel
theorem dD_clause_86 : decode mD_clause.2.1 86 = .ok (.ireturn, 1) := by decide +kernel
theorem dD_clause_87 : decode mD_clause.2.1 87 = .ok (.aload_n 3, 1) := by decide +kernel
theorem dD_clause_88 : decode mD_clause.2.1 88 = .ok (.iload_n 1, 1) := by decide +kernel
theorem dD_clause_89 : decode mD_clause.2.1 89 = .ok (.iload_n 2, 1) := by decide +kernel
theorem dD_clause_90 : decode mD_clause.2.1 90 = .ok (.invokevirtual 256, 3) := by decide +kernel
theorem dD_clause_93 : decode mD_clause.2.1 93 = .ok (.ireturn, 1) := by decide +kernel
theorem dD_isUse_0 : decode mD_isUse.2.1 0 = .ok (.iload_n 0, 1) := by decide +kernel
theorem dD_isUse_1 : decode mD_isUse.2.1 1 = .ok (.ifCond .eq 8, 3) := by decide +kernel
theorem dD_isUse_4 : decode mD_isUse.2.1 4 = .ok (.iload_n 0, 1) := by decide +kernel
theorem dD_isUse_5 : decode mD_isUse.2.1 5 = .ok (.iconst 1, 1) := by decide +kernel
theorem dD_isUse_6 : decode mD_isUse.2.1 6 = .ok (.if_icmp .ne 7, 3) := by decide +kernel
theorem dD_isUse_9 : decode mD_isUse.2.1 9 = .ok (.iconst 1, 1) := by decide +kernel
theorem dD_isUse_10 : decode mD_isUse.2.1 10 = .ok (.goto 4, 3) := by decide +kernel
theorem dD_isUse_13 : decode mD_isUse.2.1 13 = .ok (.iconst 0, 1) := by decide +kernel
theorem dD_isUse_14 : decode mD_isUse.2.1 14 = .ok (.ireturn, 1) := by decide +kernel
theorem dD_says_0 : decode mD_says.2.1 0 = .ok (.iload_n 1, 1) := by decide +kernel
theorem dD_says_1 : decode mD_says.2.1 1 = .ok (.invokestatic 240, 3) := by decide +kernel
theorem dD_says_4 : decode mD_says.2.1 4 = .ok (.ifCond .eq 17, 3) := by decide +kernel
theorem dD_says_7 : decode mD_says.2.1 7 = .ok (.aload_n 0, 1) := by decide +kernel
theorem dD_says_8 : decode mD_says.2.1 8 = .ok (.getfield 12, 3) := by decide +kernel
theorem dD_says_11 : decode mD_says.2.1 11 = .ok (.getfield 148, 3) := by decide +kernel
theorem dD_says_14 : decode mD_says.2.1 14 = .ok (.iload_n 2, 1) := by decide +kernel
theorem dD_says_15 : decode mD_says.2.1 15 = .ok (.invokevirtual 158, 3) := by decide +kernel
theorem dD_says_18 : decode mD_says.2.1 18 = .ok (.ifCond .ne 10, 3) := by decide +kernel
theorem dD_says_21 : decode mD_says.2.1 21 = .ok (.aload_n 0, 1) := by decide +kernel
theorem dD_says_22 : decode mD_says.2.1 22 = .ok (.ldc 69, 2) := by decide +kernel
theorem dD_says_24 : decode mD_says.2.1 24 = .ok (.invokevirtual 70, 3) := by decide +kernel
theorem dD_says_27 : decode mD_says.2.1 27 = .ok (.ireturn, 1) := by decide +kernel
theorem dD_says_28 : decode mD_says.2.1 28 = .ok (.iload_n 1, 1) := by decide +kernel
theorem dD_says_29 : decode mD_says.2.1 29 = .ok (.ifCond .ne 11, 3) := by decide +kernel
theorem dD_says_32 : decode mD_says.2.1 32 = .ok (.aload_n 0, 1) := by decide +kernel
theorem dD_says_33 : decode mD_says.2.1 33 = .ok (.iload_n 2, 1) := by decide +kernel
theorem dD_says_34 : decode mD_says.2.1 34 = .ok (.invokevirtual 257, 3) := by decide +kernel
theorem dD_says_37 : decode mD_says.2.1 37 = .ok (.goto 8, 3) := by decide +kernel
theorem dD_says_40 : decode mD_says.2.1 40 = .ok (.aload_n 0, 1) := by decide +kernel
theorem dD_says_41 : decode mD_says.2.1 41 = .ok (.iload_n 2, 1) := by decide +kernel
theorem dD_says_42 : decode mD_says.2.1 42 = .ok (.invokevirtual 260, 3) := by decide +kernel
theorem dD_says_45 : decode mD_says.2.1 45 = .ok (.ireturn, 1) := by decide +kernel
theorem dD_riskOf_0 : decode mD_riskOf.2.1 0 = .ok (.aload_n 0, 1) := by decide +kernel
theorem dD_riskOf_1 : decode mD_riskOf.2.1 1 = .ok (.getfield 12, 3) := by decide +kernel
theorem dD_riskOf_4 : decode mD_riskOf.2.1 4 = .ok (.getfield 227, 3) := by decide +kernel
theorem dD_riskOf_7 : decode mD_riskOf.2.1 7 = .ok (.iconst 0, 1) := by decide +kernel
theorem dD_riskOf_8 : decode mD_riskOf.2.1 8 = .ok (.aload_n 0, 1) := by decide +kernel
theorem dD_riskOf_9 : decode mD_riskOf.2.1 9 = .ok (.getfield 12, 3) := by decide +kernel
theorem dD_riskOf_12 : decode mD_riskOf.2.1 12 = .ok (.getfield 148, 3) := by decide +kernel
theorem dD_riskOf_15 : decode mD_riskOf.2.1 15 = .ok (.getfield 159, 3) := by decide +kernel
theorem dD_riskOf_18 : decode mD_riskOf.2.1 18 = .ok (.iload_n 1, 1) := by decide +kernel
theorem dD_riskOf_19 : decode mD_riskOf.2.1 19 = .ok (.iaload, 1) := by decide +kernel
theorem dD_riskOf_20 : decode mD_riskOf.2.1 20 = .ok (.invokevirtual 263, 3) := by decide +kernel
theorem dD_riskOf_23 : decode mD_riskOf.2.1 23 = .ok (.istore_n 2, 1) := by decide +kernel
theorem dD_riskOf_24 : decode mD_riskOf.2.1 24 = .ok (.iload_n 2, 1) := by decide +kernel
theorem dD_riskOf_25 : decode mD_riskOf.2.1 25 = .ok (.ifCond .lt 18, 3) := by decide +kernel
theorem dD_riskOf_28 : decode mD_riskOf.2.1 28 = .ok (.iconst 0, 1) := by decide +kernel
theorem dD_riskOf_29 : decode mD_riskOf.2.1 29 = .ok (.iconst 2, 1) := by decide +kernel
theorem dD_riskOf_30 : decode mD_riskOf.2.1 30 = .ok (.aload_n 0, 1) := by decide +kernel
theorem dD_riskOf_31 : decode mD_riskOf.2.1 31 = .ok (.iload_n 2, 1) := by decide +kernel
theorem dD_riskOf_32 : decode mD_riskOf.2.1 32 = .ok (.iload_n 1, 1) := by decide +kernel
theorem dD_riskOf_33 : decode mD_riskOf.2.1 33 = .ok (.invokevirtual 365, 3) := by decide +kernel
theorem dD_riskOf_36 : decode mD_riskOf.2.1 36 = .ok (.invokestatic 368, 3) := by decide +kernel
theorem dD_riskOf_39 : decode mD_riskOf.2.1 39 = .ok (.invokestatic 373, 3) := by decide +kernel
theorem dD_riskOf_42 : decode mD_riskOf.2.1 42 = .ok (.ireturn, 1) := by decide +kernel
theorem dD_riskOf_43 : decode mD_riskOf.2.1 43 = .ok (.aload_n 0, 1) := by decide +kernel
theorem dD_riskOf_44 : decode mD_riskOf.2.1 44 = .ok (.getfield 12, 3) := by decide +kernel
theorem dD_riskOf_47 : decode mD_riskOf.2.1 47 = .ok (.getfield 148, 3) := by decide +kernel
theorem dD_riskOf_50 : decode mD_riskOf.2.1 50 = .ok (.getfield 174, 3) := by decide +kernel
theorem dD_riskOf_53 : decode mD_riskOf.2.1 53 = .ok (.iload_n 1, 1) := by decide +kernel
theorem dD_riskOf_54 : decode mD_riskOf.2.1 54 = .ok (.iaload, 1) := by decide +kernel
theorem dD_riskOf_55 : decode mD_riskOf.2.1 55 = .ok (.istore_n 3, 1) := by decide +kernel
theorem dD_riskOf_56 : decode mD_riskOf.2.1 56 = .ok (.iload_n 3, 1) := by decide +kernel
theorem dD_riskOf_57 : decode mD_riskOf.2.1 57 = .ok (.ifCond .ne 5, 3) := by decide +kernel
theorem dD_riskOf_60 : decode mD_riskOf.2.1 60 = .ok (.iconst 2, 1) := by decide +kernel
theorem dD_riskOf_61 : decode mD_riskOf.2.1 61 = .ok (.ireturn, 1) := by decide +kernel
theorem dD_riskOf_62 : decode mD_riskOf.2.1 62 = .ok (.iload_n 3, 1) := by decide +kernel
theorem dD_riskOf_63 : decode mD_riskOf.2.1 63 = .ok (.iconst 1, 1) := by decide +kernel
theorem dD_riskOf_64 : decode mD_riskOf.2.1 64 = .ok (.if_icmp .ne 7, 3) := by decide +kernel
theorem dD_riskOf_67 : decode mD_riskOf.2.1 67 = .ok (.iconst 0, 1) := by decide +kernel
theorem dD_riskOf_68 : decode mD_riskOf.2.1 68 = .ok (.goto 4, 3) := by decide +kernel
theorem dD_riskOf_71 : decode mD_riskOf.2.1 71 = .ok (.iconst 1, 1) := by decide +kernel
theorem dD_riskOf_72 : decode mD_riskOf.2.1 72 = .ok (.ireturn, 1) := by decide +kernel
theorem dD_valueOf_0 : decode mD_valueOf.2.1 0 = .ok (.aload_n 0, 1) := by decide +kernel
theorem dD_valueOf_1 : decode mD_valueOf.2.1 1 = .ok (.getfield 12, 3) := by decide +kernel
theorem dD_valueOf_4 : decode mD_valueOf.2.1 4 = .ok (.getfield 148, 3) := by decide +kernel
theorem dD_valueOf_7 : decode mD_valueOf.2.1 7 = .ok (.astore_n 3, 1) := by decide +kernel
theorem dD_valueOf_8 : decode mD_valueOf.2.1 8 = .ok (.aload_n 3, 1) := by decide +kernel
theorem dD_valueOf_9 : decode mD_valueOf.2.1 9 = .ok (.getfield 171, 3) := by decide +kernel
theorem dD_valueOf_12 : decode mD_valueOf.2.1 12 = .ok (.iload_n 2, 1) := by decide +kernel
theorem dD_valueOf_13 : decode mD_valueOf.2.1 13 = .ok (.iaload, 1) := by decide +kernel
theorem dD_valueOf_14 : decode mD_valueOf.2.1 14 = .ok (.istore 4, 2) := by decide +kernel
theorem dD_valueOf_16 : decode mD_valueOf.2.1 16 = .ok (.aload_n 0, 1) := by decide +kernel
theorem dD_valueOf_17 : decode mD_valueOf.2.1 17 = .ok (.getfield 29, 3) := by decide +kernel
theorem dD_valueOf_20 : decode mD_valueOf.2.1 20 = .ok (.getfield 376, 3) := by decide +kernel
theorem dD_valueOf_23 : decode mD_valueOf.2.1 23 = .ok (.iconst 0, 1) := by decide +kernel
theorem dD_valueOf_24 : decode mD_valueOf.2.1 24 = .ok (.aload_n 3, 1) := by decide +kernel
theorem dD_valueOf_25 : decode mD_valueOf.2.1 25 = .ok (.getfield 174, 3) := by decide +kernel
theorem dD_valueOf_28 : decode mD_valueOf.2.1 28 = .ok (.iload_n 2, 1) := by decide +kernel
theorem dD_valueOf_29 : decode mD_valueOf.2.1 29 = .ok (.iaload, 1) := by decide +kernel
theorem dD_valueOf_30 : decode mD_valueOf.2.1 30 = .ok (.iastore, 1) := by decide +kernel
theorem dD_valueOf_31 : decode mD_valueOf.2.1 31 = .ok (.aload_n 0, 1) := by decide +kernel
theorem dD_valueOf_32 : decode mD_valueOf.2.1 32 = .ok (.getfield 29, 3) := by decide +kernel
theorem dD_valueOf_35 : decode mD_valueOf.2.1 35 = .ok (.getfield 376, 3) := by decide +kernel
theorem dD_valueOf_38 : decode mD_valueOf.2.1 38 = .ok (.iconst 1, 1) := by decide +kernel
theorem dD_valueOf_39 : decode mD_valueOf.2.1 39 = .ok (.aload_n 3, 1) := by decide +kernel
theorem dD_valueOf_40 : decode mD_valueOf.2.1 40 = .ok (.getfield 177, 3) := by decide +kernel
theorem dD_valueOf_43 : decode mD_valueOf.2.1 43 = .ok (.iload_n 2, 1) := by decide +kernel
theorem dD_valueOf_44 : decode mD_valueOf.2.1 44 = .ok (.iaload, 1) := by decide +kernel
theorem dD_valueOf_45 : decode mD_valueOf.2.1 45 = .ok (.iastore, 1) := by decide +kernel
theorem dD_valueOf_46 : decode mD_valueOf.2.1 46 = .ok (.aload_n 0, 1) := by decide +kernel
theorem dD_valueOf_47 : decode mD_valueOf.2.1 47 = .ok (.getfield 29, 3) := by decide +kernel
theorem dD_valueOf_50 : decode mD_valueOf.2.1 50 = .ok (.getfield 376, 3) := by decide +kernel
theorem dD_valueOf_53 : decode mD_valueOf.2.1 53 = .ok (.iconst 2, 1) := by decide +kernel
theorem dD_valueOf_54 : decode mD_valueOf.2.1 54 = .ok (.aload_n 0, 1) := by decide +kernel
theorem dD_valueOf_55 : decode mD_valueOf.2.1 55 = .ok (.getfield 12, 3) := by decide +kernel
theorem dD_valueOf_58 : decode mD_valueOf.2.1 58 = .ok (.getfield 74, 3) := by decide +kernel
theorem dD_valueOf_61 : decode mD_valueOf.2.1 61 = .ok (.getfield 91, 3) := by decide +kernel
theorem dD_valueOf_64 : decode mD_valueOf.2.1 64 = .ok (.iload 4, 2) := by decide +kernel
theorem dD_valueOf_66 : decode mD_valueOf.2.1 66 = .ok (.iaload, 1) := by decide +kernel
theorem dD_valueOf_67 : decode mD_valueOf.2.1 67 = .ok (.iastore, 1) := by decide +kernel
theorem dD_valueOf_68 : decode mD_valueOf.2.1 68 = .ok (.aload_n 0, 1) := by decide +kernel
theorem dD_valueOf_69 : decode mD_valueOf.2.1 69 = .ok (.getfield 29, 3) := by decide +kernel
theorem dD_valueOf_72 : decode mD_valueOf.2.1 72 = .ok (.getfield 376, 3) := by decide +kernel
theorem dD_valueOf_75 : decode mD_valueOf.2.1 75 = .ok (.iconst 3, 1) := by decide +kernel
theorem dD_valueOf_76 : decode mD_valueOf.2.1 76 = .ok (.aload_n 3, 1) := by decide +kernel
theorem dD_valueOf_77 : decode mD_valueOf.2.1 77 = .ok (.iload_n 2, 1) := by decide +kernel
theorem dD_valueOf_78 : decode mD_valueOf.2.1 78 = .ok (.invokevirtual 379, 3) := by decide +kernel
theorem dD_valueOf_81 : decode mD_valueOf.2.1 81 = .ok (.iastore, 1) := by decide +kernel
theorem dD_valueOf_82 : decode mD_valueOf.2.1 82 = .ok (.aload_n 0, 1) := by decide +kernel
theorem dD_valueOf_83 : decode mD_valueOf.2.1 83 = .ok (.getfield 29, 3) := by decide +kernel
theorem dD_valueOf_86 : decode mD_valueOf.2.1 86 = .ok (.getfield 376, 3) := by decide +kernel
theorem dD_valueOf_89 : decode mD_valueOf.2.1 89 = .ok (.iconst 4, 1) := by decide +kernel
theorem dD_valueOf_90 : decode mD_valueOf.2.1 90 = .ok (.aload_n 3, 1) := by decide +kernel
theorem dD_valueOf_91 : decode mD_valueOf.2.1 91 = .ok (.iload_n 2, 1) := by decide +kernel
theorem dD_valueOf_92 : decode mD_valueOf.2.1 92 = .ok (.aload_n 0, 1) := by decide +kernel
theorem dD_valueOf_93 : decode mD_valueOf.2.1 93 = .ok (.invokevirtual 272, 3) := by decide +kernel
theorem dD_valueOf_96 : decode mD_valueOf.2.1 96 = .ok (.invokevirtual 382, 3) := by decide +kernel
theorem dD_valueOf_99 : decode mD_valueOf.2.1 99 = .ok (.ifCond .eq 7, 3) := by decide +kernel
theorem dD_valueOf_102 : decode mD_valueOf.2.1 102 = .ok (.iconst 1, 1) := by decide +kernel
theorem dD_valueOf_103 : decode mD_valueOf.2.1 103 = .ok (.goto 4, 3) := by decide +kernel
theorem dD_valueOf_106 : decode mD_valueOf.2.1 106 = .ok (.iconst 0, 1) := by decide +kernel
theorem dD_valueOf_107 : decode mD_valueOf.2.1 107 = .ok (.iastore, 1) := by decide +kernel
theorem dD_valueOf_108 : decode mD_valueOf.2.1 108 = .ok (.aload_n 0, 1) := by decide +kernel
theorem dD_valueOf_109 : decode mD_valueOf.2.1 109 = .ok (.getfield 29, 3) := by decide +kernel
theorem dD_valueOf_112 : decode mD_valueOf.2.1 112 = .ok (.getfield 376, 3) := by decide +kernel
theorem dD_valueOf_115 : decode mD_valueOf.2.1 115 = .ok (.iconst 5, 1) := by decide +kernel
theorem dD_valueOf_116 : decode mD_valueOf.2.1 116 = .ok (.aload_n 0, 1) := by decide +kernel
theorem dD_valueOf_117 : decode mD_valueOf.2.1 117 = .ok (.getfield 12, 3) := by decide +kernel
theorem dD_valueOf_120 : decode mD_valueOf.2.1 120 = .ok (.getfield 227, 3) := by decide +kernel
theorem dD_valueOf_123 : decode mD_valueOf.2.1 123 = .ok (.iload_n 1, 1) := by decide +kernel
theorem dD_valueOf_124 : decode mD_valueOf.2.1 124 = .ok (.bipush 102, 2) := by decide +kernel
theorem dD_valueOf_126 : decode mD_valueOf.2.1 126 = .ok (.invokevirtual 385, 3) := by decide +kernel
theorem dD_valueOf_129 : decode mD_valueOf.2.1 129 = .ok (.ifCond .eq 13, 3) := by decide +kernel
theorem dD_valueOf_132 : decode mD_valueOf.2.1 132 = .ok (.aload_n 0, 1) := by decide +kernel
theorem dD_valueOf_133 : decode mD_valueOf.2.1 133 = .ok (.iload 4, 2) := by decide +kernel
theorem dD_valueOf_135 : decode mD_valueOf.2.1 135 = .ok (.iconst 0, 1) := by decide +kernel
theorem dD_valueOf_136 : decode mD_valueOf.2.1 136 = .ok (.invokevirtual 189, 3) := by decide +kernel
theorem dD_valueOf_139 : decode mD_valueOf.2.1 139 = .ok (.goto 4, 3) := by decide +kernel
theorem dD_valueOf_142 : decode mD_valueOf.2.1 142 = .ok (.iconst 0, 1) := by decide +kernel
theorem dD_valueOf_143 : decode mD_valueOf.2.1 143 = .ok (.iastore, 1) := by decide +kernel
theorem dD_valueOf_144 : decode mD_valueOf.2.1 144 = .ok (.aload_n 0, 1) := by decide +kernel
theorem dD_valueOf_145 : decode mD_valueOf.2.1 145 = .ok (.getfield 29, 3) := by decide +kernel
theorem dD_valueOf_148 : decode mD_valueOf.2.1 148 = .ok (.aload_n 0, 1) := by decide +kernel
theorem dD_valueOf_149 : decode mD_valueOf.2.1 149 = .ok (.getfield 12, 3) := by decide +kernel
theorem dD_valueOf_152 : decode mD_valueOf.2.1 152 = .ok (.getfield 227, 3) := by decide +kernel
theorem dD_valueOf_155 : decode mD_valueOf.2.1 155 = .ok (.getfield 389, 3) := by decide +kernel
theorem dD_valueOf_158 : decode mD_valueOf.2.1 158 = .ok (.iload_n 1, 1) := by decide +kernel
theorem dD_valueOf_159 : decode mD_valueOf.2.1 159 = .ok (.bipush 60, 2) := by decide +kernel
theorem dD_valueOf_161 : decode mD_valueOf.2.1 161 = .ok (.imul, 1) := by decide +kernel
theorem dD_valueOf_162 : decode mD_valueOf.2.1 162 = .ok (.aload_n 0, 1) := by decide +kernel
theorem dD_valueOf_163 : decode mD_valueOf.2.1 163 = .ok (.getfield 12, 3) := by decide +kernel
theorem dD_valueOf_166 : decode mD_valueOf.2.1 166 = .ok (.getfield 227, 3) := by decide +kernel
theorem dD_valueOf_169 : decode mD_valueOf.2.1 169 = .ok (.getfield 392, 3) := by decide +kernel
theorem dD_valueOf_172 : decode mD_valueOf.2.1 172 = .ok (.iload_n 1, 1) := by decide +kernel
theorem dD_valueOf_173 : decode mD_valueOf.2.1 173 = .ok (.iaload, 1) := by decide +kernel
theorem dD_valueOf_174 : decode mD_valueOf.2.1 174 = .ok (.invokevirtual 248, 3) := by decide +kernel
theorem dD_valueOf_177 : decode mD_valueOf.2.1 177 = .ok (.ireturn, 1) := by decide +kernel
theorem dD_knownToday_0 : decode mD_knownToday.2.1 0 = .ok (.aload_n 0, 1) := by decide +kernel
theorem dD_knownToday_1 : decode mD_knownToday.2.1 1 = .ok (.getfield 12, 3) := by decide +kernel
theorem dD_knownToday_4 : decode mD_knownToday.2.1 4 = .ok (.getfield 148, 3) := by decide +kernel
theorem dD_knownToday_7 : decode mD_knownToday.2.1 7 = .ok (.aload_n 0, 1) := by decide +kernel
theorem dD_knownToday_8 : decode mD_knownToday.2.1 8 = .ok (.getfield 12, 3) := by decide +kernel
theorem dD_knownToday_11 : decode mD_knownToday.2.1 11 = .ok (.getfield 142, 3) := by decide +kernel
theorem dD_knownToday_14 : decode mD_knownToday.2.1 14 = .ok (.invokevirtual 183, 3) := by decide +kernel
theorem dD_knownToday_17 : decode mD_knownToday.2.1 17 = .ok (.ireturn, 1) := by decide +kernel
theorem dD_priceOf_0 : decode mD_priceOf.2.1 0 = .ok (.aload_n 0, 1) := by decide +kernel
theorem dD_priceOf_1 : decode mD_priceOf.2.1 1 = .ok (.getfield 12, 3) := by decide +kernel
theorem dD_priceOf_4 : decode mD_priceOf.2.1 4 = .ok (.getfield 227, 3) := by decide +kernel
theorem dD_priceOf_7 : decode mD_priceOf.2.1 7 = .ok (.iconst 1, 1) := by decide +kernel
theorem dD_priceOf_8 : decode mD_priceOf.2.1 8 = .ok (.aload_n 0, 1) := by decide +kernel
theorem dD_priceOf_9 : decode mD_priceOf.2.1 9 = .ok (.getfield 12, 3) := by decide +kernel
theorem dD_priceOf_12 : decode mD_priceOf.2.1 12 = .ok (.getfield 148, 3) := by decide +kernel
theorem dD_priceOf_15 : decode mD_priceOf.2.1 15 = .ok (.getfield 159, 3) := by decide +kernel
theorem dD_priceOf_18 : decode mD_priceOf.2.1 18 = .ok (.iload_n 1, 1) := by decide +kernel
theorem dD_priceOf_19 : decode mD_priceOf.2.1 19 = .ok (.iaload, 1) := by decide +kernel
theorem dD_priceOf_20 : decode mD_priceOf.2.1 20 = .ok (.invokevirtual 263, 3) := by decide +kernel
theorem dD_priceOf_23 : decode mD_priceOf.2.1 23 = .ok (.istore_n 2, 1) := by decide +kernel
theorem dD_priceOf_24 : decode mD_priceOf.2.1 24 = .ok (.iload_n 2, 1) := by decide +kernel
theorem dD_priceOf_25 : decode mD_priceOf.2.1 25 = .ok (.ifCond .ge 6, 3) := by decide +kernel
theorem dD_priceOf_28 : decode mD_priceOf.2.1 28 = .ok (.bipush 100, 2) := by decide +kernel
theorem dD_priceOf_30 : decode mD_priceOf.2.1 30 = .ok (.ireturn, 1) := by decide +kernel
theorem dD_priceOf_31 : decode mD_priceOf.2.1 31 = .ok (.iconst 0, 1) := by decide +kernel
theorem dD_priceOf_32 : decode mD_priceOf.2.1 32 = .ok (.sipush 9999, 3) := by decide +kernel
theorem dD_priceOf_35 : decode mD_priceOf.2.1 35 = .ok (.aload_n 0, 1) := by decide +kernel
theorem dD_priceOf_36 : decode mD_priceOf.2.1 36 = .ok (.iload_n 2, 1) := by decide +kernel
theorem dD_priceOf_37 : decode mD_priceOf.2.1 37 = .ok (.iload_n 1, 1) := by decide +kernel
theorem dD_priceOf_38 : decode mD_priceOf.2.1 38 = .ok (.invokevirtual 365, 3) := by decide +kernel
theorem dD_priceOf_41 : decode mD_priceOf.2.1 41 = .ok (.invokestatic 368, 3) := by decide +kernel
theorem dD_priceOf_44 : decode mD_priceOf.2.1 44 = .ok (.invokestatic 373, 3) := by decide +kernel
theorem dD_priceOf_47 : decode mD_priceOf.2.1 47 = .ok (.ireturn, 1) := by decide +kernel
theorem dD_force_0 : decode mD_force.2.1 0 = .ok (.iload_n 1, 1) := by decide +kernel
theorem dD_force_1 : decode mD_force.2.1 1 = .ok (.invokestatic 240, 3) := by decide +kernel
theorem dD_force_4 : decode mD_force.2.1 4 = .ok (.ifCond .eq 17, 3) := by decide +kernel
theorem dD_force_7 : decode mD_force.2.1 7 = .ok (.aload_n 0, 1) := by decide +kernel
theorem dD_force_8 : decode mD_force.2.1 8 = .ok (.getfield 12, 3) := by decide +kernel
theorem dD_force_11 : decode mD_force.2.1 11 = .ok (.getfield 148, 3) := by decide +kernel
theorem dD_force_14 : decode mD_force.2.1 14 = .ok (.iload_n 2, 1) := by decide +kernel
theorem dD_force_15 : decode mD_force.2.1 15 = .ok (.invokevirtual 158, 3) := by decide +kernel
theorem dD_force_18 : decode mD_force.2.1 18 = .ok (.ifCond .ne 10, 3) := by decide +kernel
theorem dD_force_21 : decode mD_force.2.1 21 = .ok (.aload_n 0, 1) := by decide +kernel
theorem dD_force_22 : decode mD_force.2.1 22 = .ok (.ldc 69, 2) := by decide +kernel
theorem dD_force_24 : decode mD_force.2.1 24 = .ok (.invokevirtual 70, 3) := by decide +kernel
theorem dD_force_27 : decode mD_force.2.1 27 = .ok (.ireturn, 1) := by decide +kernel
theorem dD_force_28 : decode mD_force.2.1 28 = .ok (.aload_n 0, 1) := by decide +kernel
theorem dD_force_29 : decode mD_force.2.1 29 = .ok (.getfield 12, 3) := by decide +kernel
theorem dD_force_32 : decode mD_force.2.1 32 = .ok (.getfield 227, 3) := by decide +kernel
theorem dD_force_35 : decode mD_force.2.1 35 = .ok (.iload_n 1, 1) := by decide +kernel
theorem dD_force_36 : decode mD_force.2.1 36 = .ok (.aload_n 0, 1) := by decide +kernel
theorem dD_force_37 : decode mD_force.2.1 37 = .ok (.getfield 12, 3) := by decide +kernel
theorem dD_force_40 : decode mD_force.2.1 40 = .ok (.getfield 148, 3) := by decide +kernel
theorem dD_force_43 : decode mD_force.2.1 43 = .ok (.getfield 159, 3) := by decide +kernel
theorem dD_force_46 : decode mD_force.2.1 46 = .ok (.iload_n 2, 1) := by decide +kernel
theorem dD_force_47 : decode mD_force.2.1 47 = .ok (.iaload, 1) := by decide +kernel
theorem dD_force_48 : decode mD_force.2.1 48 = .ok (.invokevirtual 263, 3) := by decide +kernel
theorem dD_force_51 : decode mD_force.2.1 51 = .ok (.istore_n 3, 1) := by decide +kernel
theorem dD_force_52 : decode mD_force.2.1 52 = .ok (.iload_n 3, 1) := by decide +kernel
theorem dD_force_53 : decode mD_force.2.1 53 = .ok (.ifCond .lt 7, 3) := by decide +kernel
theorem dD_force_56 : decode mD_force.2.1 56 = .ok (.iload_n 3, 1) := by decide +kernel
theorem dD_force_57 : decode mD_force.2.1 57 = .ok (.goto 9, 3) := by decide +kernel
theorem dD_force_60 : decode mD_force.2.1 60 = .ok (.aload_n 0, 1) := by decide +kernel
theorem dD_force_61 : decode mD_force.2.1 61 = .ok (.ldc 125, 2) := by decide +kernel
theorem dD_force_63 : decode mD_force.2.1 63 = .ok (.invokevirtual 70, 3) := by decide +kernel
theorem dD_force_66 : decode mD_force.2.1 66 = .ok (.ireturn, 1) := by decide +kernel
theorem dD_claim_0 : decode mD_claim.2.1 0 = .ok (.iload_n 1, 1) := by decide +kernel
theorem dD_claim_1 : decode mD_claim.2.1 1 = .ok (.tableswitch 105 0 5 #[39, 55, 65, 75, 94, 100], 39) := by decide +kernel
theorem dD_claim_40 : decode mD_claim.2.1 40 = .ok (.aload_n 0, 1) := by decide +kernel
theorem dD_claim_41 : decode mD_claim.2.1 41 = .ok (.aload_n 0, 1) := by decide +kernel
theorem dD_claim_42 : decode mD_claim.2.1 42 = .ok (.iconst 1, 1) := by decide +kernel
theorem dD_claim_43 : decode mD_claim.2.1 43 = .ok (.invokevirtual 266, 3) := by decide +kernel
theorem dD_claim_46 : decode mD_claim.2.1 46 = .ok (.invokevirtual 192, 3) := by decide +kernel
theorem dD_claim_49 : decode mD_claim.2.1 49 = .ok (.aload_n 0, 1) := by decide +kernel
theorem dD_claim_50 : decode mD_claim.2.1 50 = .ok (.iconst 0, 1) := by decide +kernel
theorem dD_claim_51 : decode mD_claim.2.1 51 = .ok (.invokevirtual 192, 3) := by decide +kernel
theorem dD_claim_54 : decode mD_claim.2.1 54 = .ok (.isub, 1) := by decide +kernel
theorem dD_claim_55 : decode mD_claim.2.1 55 = .ok (.ireturn, 1) := by decide +kernel
theorem dD_claim_56 : decode mD_claim.2.1 56 = .ok (.aload_n 0, 1) := by decide +kernel
theorem dD_claim_57 : decode mD_claim.2.1 57 = .ok (.aload_n 0, 1) := by decide +kernel
theorem dD_claim_58 : decode mD_claim.2.1 58 = .ok (.iconst 1, 1) := by decide +kernel
theorem dD_claim_59 : decode mD_claim.2.1 59 = .ok (.invokevirtual 266, 3) := by decide +kernel
theorem dD_claim_62 : decode mD_claim.2.1 62 = .ok (.invokevirtual 192, 3) := by decide +kernel
theorem dD_claim_65 : decode mD_claim.2.1 65 = .ok (.ireturn, 1) := by decide +kernel
theorem dD_claim_66 : decode mD_claim.2.1 66 = .ok (.aload_n 0, 1) := by decide +kernel
theorem dD_claim_67 : decode mD_claim.2.1 67 = .ok (.aload_n 0, 1) := by decide +kernel
theorem dD_claim_68 : decode mD_claim.2.1 68 = .ok (.iconst 2, 1) := by decide +kernel
theorem dD_claim_69 : decode mD_claim.2.1 69 = .ok (.invokevirtual 266, 3) := by decide +kernel
theorem dD_claim_72 : decode mD_claim.2.1 72 = .ok (.invokevirtual 269, 3) := by decide +kernel
theorem dD_claim_75 : decode mD_claim.2.1 75 = .ok (.ireturn, 1) := by decide +kernel
theorem dD_claim_76 : decode mD_claim.2.1 76 = .ok (.aload_n 0, 1) := by decide +kernel
theorem dD_claim_77 : decode mD_claim.2.1 77 = .ok (.aload_n 0, 1) := by decide +kernel
theorem dD_claim_78 : decode mD_claim.2.1 78 = .ok (.invokevirtual 272, 3) := by decide +kernel
theorem dD_claim_81 : decode mD_claim.2.1 81 = .ok (.invokevirtual 192, 3) := by decide +kernel
theorem dD_claim_84 : decode mD_claim.2.1 84 = .ok (.aload_n 0, 1) := by decide +kernel
theorem dD_claim_85 : decode mD_claim.2.1 85 = .ok (.aload_n 0, 1) := by decide +kernel
theorem dD_claim_86 : decode mD_claim.2.1 86 = .ok (.iconst 1, 1) := by decide +kernel
theorem dD_claim_87 : decode mD_claim.2.1 87 = .ok (.invokevirtual 266, 3) := by decide +kernel
theorem dD_claim_90 : decode mD_claim.2.1 90 = .ok (.invokevirtual 192, 3) := by decide +kernel
theorem dD_claim_93 : decode mD_claim.2.1 93 = .ok (.isub, 1) := by decide +kernel
theorem dD_claim_94 : decode mD_claim.2.1 94 = .ok (.ireturn, 1) := by decide +kernel
theorem dD_claim_95 : decode mD_claim.2.1 95 = .ok (.aload_n 0, 1) := by decide +kernel
theorem dD_claim_96 : decode mD_claim.2.1 96 = .ok (.iconst 1, 1) := by decide +kernel
theorem dD_claim_97 : decode mD_claim.2.1 97 = .ok (.invokevirtual 266, 3) := by decide +kernel
theorem dD_claim_100 : decode mD_claim.2.1 100 = .ok (.ireturn, 1) := by decide +kernel
theorem dD_claim_101 : decode mD_claim.2.1 101 = .ok (.aload_n 0, 1) := by decide +kernel
theorem dD_claim_102 : decode mD_claim.2.1 102 = .ok (.invokevirtual 275, 3) := by decide +kernel
theorem dD_claim_105 : decode mD_claim.2.1 105 = .ok (.ireturn, 1) := by decide +kernel
theorem dD_claim_106 : decode mD_claim.2.1 106 = .ok (.aload_n 0, 1) := by decide +kernel
theorem dD_claim_107 : decode mD_claim.2.1 107 = .ok (.ldc 69, 2) := by decide +kernel
theorem dD_claim_109 : decode mD_claim.2.1 109 = .ok (.invokevirtual 70, 3) := by decide +kernel
theorem dD_claim_112 : decode mD_claim.2.1 112 = .ok (.ireturn, 1) := by decide +kernel
theorem dD_bearing_0 : decode mD_bearing.2.1 0 = .ok (.aload_n 0, 1) := by decide +kernel
theorem dD_bearing_1 : decode mD_bearing.2.1 1 = .ok (.invokevirtual 272, 3) := by decide +kernel
theorem dD_bearing_4 : decode mD_bearing.2.1 4 = .ok (.istore_n 2, 1) := by decide +kernel
theorem dD_bearing_5 : decode mD_bearing.2.1 5 = .ok (.iconst 0, 1) := by decide +kernel
theorem dD_bearing_6 : decode mD_bearing.2.1 6 = .ok (.istore_n 3, 1) := by decide +kernel
theorem dD_bearing_7 : decode mD_bearing.2.1 7 = .ok (.iconst 0, 1) := by decide +kernel
theorem dD_bearing_8 : decode mD_bearing.2.1 8 = .ok (.istore 4, 2) := by decide +kernel
theorem dD_bearing_10 : decode mD_bearing.2.1 10 = .ok (.iload 4, 2) := by decide +kernel
theorem dD_bearing_12 : decode mD_bearing.2.1 12 = .ok (.aload_n 0, 1) := by decide +kernel
theorem dD_bearing_13 : decode mD_bearing.2.1 13 = .ok (.getfield 12, 3) := by decide +kernel
theorem dD_bearing_16 : decode mD_bearing.2.1 16 = .ok (.getfield 148, 3) := by decide +kernel
theorem dD_bearing_19 : decode mD_bearing.2.1 19 = .ok (.getfield 152, 3) := by decide +kernel
theorem dD_bearing_22 : decode mD_bearing.2.1 22 = .ok (.if_icmp .ge 35, 3) := by decide +kernel
theorem dD_bearing_25 : decode mD_bearing.2.1 25 = .ok (.iload_n 2, 1) := by decide +kernel
theorem dD_bearing_26 : decode mD_bearing.2.1 26 = .ok (.iload 4, 2) := by decide +kernel
theorem dD_bearing_28 : decode mD_bearing.2.1 28 = .ok (.invokestatic 209, 3) := by decide +kernel
theorem dD_bearing_31 : decode mD_bearing.2.1 31 = .ok (.ifCond .eq 20, 3) := by decide +kernel
theorem dD_bearing_34 : decode mD_bearing.2.1 34 = .ok (.aload_n 0, 1) := by decide +kernel
theorem dD_bearing_35 : decode mD_bearing.2.1 35 = .ok (.iload 4, 2) := by decide +kernel
theorem dD_bearing_37 : decode mD_bearing.2.1 37 = .ok (.invokevirtual 257, 3) := by decide +kernel
theorem dD_bearing_40 : decode mD_bearing.2.1 40 = .ok (.iload_n 1, 1) := by decide +kernel
theorem dD_bearing_41 : decode mD_bearing.2.1 41 = .ok (.if_icmp .lt 10, 3) := by decide +kernel
theorem dD_bearing_44 : decode mD_bearing.2.1 44 = .ok (.iload_n 3, 1) := by decide +kernel
theorem dD_bearing_45 : decode mD_bearing.2.1 45 = .ok (.iconst 1, 1) := by decide +kernel
theorem dD_bearing_46 : decode mD_bearing.2.1 46 = .ok (.iload 4, 2) := by decide +kernel
theorem dD_bearing_48 : decode mD_bearing.2.1 48 = .ok (.ishl, 1) := by decide +kernel
theorem dD_bearing_49 : decode mD_bearing.2.1 49 = .ok (.ior, 1) := by decide +kernel
theorem dD_bearing_50 : decode mD_bearing.2.1 50 = .ok (.istore_n 3, 1) := by decide +kernel
theorem dD_bearing_51 : decode mD_bearing.2.1 51 = .ok (.iinc 4 1, 3) := by decide +kernel
theorem dD_bearing_54 : decode mD_bearing.2.1 54 = .ok (.goto (-44), 3) := by decide +kernel
theorem dD_bearing_57 : decode mD_bearing.2.1 57 = .ok (.iload_n 3, 1) := by decide +kernel
theorem dD_bearing_58 : decode mD_bearing.2.1 58 = .ok (.ireturn, 1) := by decide +kernel
theorem dD_paidFor_0 : decode mD_paidFor.2.1 0 = .ok (.iconst 0, 1) := by decide +kernel
theorem dD_paidFor_1 : decode mD_paidFor.2.1 1 = .ok (.istore_n 2, 1) := by decide +kernel
theorem dD_paidFor_2 : decode mD_paidFor.2.1 2 = .ok (.iconst 0, 1) := by decide +kernel
theorem dD_paidFor_3 : decode mD_paidFor.2.1 3 = .ok (.istore_n 3, 1) := by decide +kernel
theorem dD_paidFor_4 : decode mD_paidFor.2.1 4 = .ok (.iload_n 3, 1) := by decide +kernel
theorem dD_paidFor_5 : decode mD_paidFor.2.1 5 = .ok (.aload_n 0, 1) := by decide +kernel
theorem dD_paidFor_6 : decode mD_paidFor.2.1 6 = .ok (.getfield 12, 3) := by decide +kernel
theorem dD_paidFor_9 : decode mD_paidFor.2.1 9 = .ok (.getfield 148, 3) := by decide +kernel
theorem dD_paidFor_12 : decode mD_paidFor.2.1 12 = .ok (.getfield 152, 3) := by decide +kernel
theorem dD_paidFor_15 : decode mD_paidFor.2.1 15 = .ok (.if_icmp .ge 32, 3) := by decide +kernel
theorem dD_paidFor_18 : decode mD_paidFor.2.1 18 = .ok (.iload_n 1, 1) := by decide +kernel
theorem dD_paidFor_19 : decode mD_paidFor.2.1 19 = .ok (.iload_n 3, 1) := by decide +kernel
theorem dD_paidFor_20 : decode mD_paidFor.2.1 20 = .ok (.invokestatic 209, 3) := by decide +kernel
theorem dD_paidFor_23 : decode mD_paidFor.2.1 23 = .ok (.ifCond .eq 18, 3) := by decide +kernel
theorem dD_paidFor_26 : decode mD_paidFor.2.1 26 = .ok (.iload_n 2, 1) := by decide +kernel
theorem dD_paidFor_27 : decode mD_paidFor.2.1 27 = .ok (.aload_n 0, 1) := by decide +kernel
theorem dD_paidFor_28 : decode mD_paidFor.2.1 28 = .ok (.iload_n 3, 1) := by decide +kernel
theorem dD_paidFor_29 : decode mD_paidFor.2.1 29 = .ok (.iload_n 1, 1) := by decide +kernel
theorem dD_paidFor_30 : decode mD_paidFor.2.1 30 = .ok (.invokevirtual 212, 3) := by decide +kernel
theorem dD_paidFor_33 : decode mD_paidFor.2.1 33 = .ok (.aload_n 0, 1) := by decide +kernel
theorem dD_paidFor_34 : decode mD_paidFor.2.1 34 = .ok (.iload_n 3, 1) := by decide +kernel
theorem dD_paidFor_35 : decode mD_paidFor.2.1 35 = .ok (.invokevirtual 260, 3) := by decide +kernel
theorem dD_paidFor_38 : decode mD_paidFor.2.1 38 = .ok (.imul, 1) := by decide +kernel
theorem dD_paidFor_39 : decode mD_paidFor.2.1 39 = .ok (.iadd, 1) := by decide +kernel
theorem dD_paidFor_40 : decode mD_paidFor.2.1 40 = .ok (.istore_n 2, 1) := by decide +kernel
theorem dD_paidFor_41 : decode mD_paidFor.2.1 41 = .ok (.iinc 3 1, 3) := by decide +kernel
theorem dD_paidFor_44 : decode mD_paidFor.2.1 44 = .ok (.goto (-40), 3) := by decide +kernel
theorem dD_paidFor_47 : decode mD_paidFor.2.1 47 = .ok (.iload_n 2, 1) := by decide +kernel
theorem dD_paidFor_48 : decode mD_paidFor.2.1 48 = .ok (.ireturn, 1) := by decide +kernel
theorem dD_twoAtOnce_0 : decode mD_twoAtOnce.2.1 0 = .ok (.aload_n 0, 1) := by decide +kernel
theorem dD_twoAtOnce_1 : decode mD_twoAtOnce.2.1 1 = .ok (.invokevirtual 272, 3) := by decide +kernel
theorem dD_twoAtOnce_4 : decode mD_twoAtOnce.2.1 4 = .ok (.istore_n 1, 1) := by decide +kernel
theorem dD_twoAtOnce_5 : decode mD_twoAtOnce.2.1 5 = .ok (.iconst 0, 1) := by decide +kernel
theorem dD_twoAtOnce_6 : decode mD_twoAtOnce.2.1 6 = .ok (.istore_n 2, 1) := by decide +kernel
theorem dD_twoAtOnce_7 : decode mD_twoAtOnce.2.1 7 = .ok (.iconst 0, 1) := by decide +kernel
theorem dD_twoAtOnce_8 : decode mD_twoAtOnce.2.1 8 = .ok (.istore_n 3, 1) := by decide +kernel
theorem dD_twoAtOnce_9 : decode mD_twoAtOnce.2.1 9 = .ok (.iload_n 3, 1) := by decide +kernel
theorem dD_twoAtOnce_10 : decode mD_twoAtOnce.2.1 10 = .ok (.aload_n 0, 1) := by decide +kernel
theorem dD_twoAtOnce_11 : decode mD_twoAtOnce.2.1 11 = .ok (.getfield 12, 3) := by decide +kernel
theorem dD_twoAtOnce_14 : decode mD_twoAtOnce.2.1 14 = .ok (.getfield 148, 3) := by decide +kernel
theorem dD_twoAtOnce_17 : decode mD_twoAtOnce.2.1 17 = .ok (.getfield 152, 3) := by decide +kernel
theorem dD_twoAtOnce_20 : decode mD_twoAtOnce.2.1 20 = .ok (.if_icmp .ge 38, 3) := by decide +kernel
theorem dD_twoAtOnce_23 : decode mD_twoAtOnce.2.1 23 = .ok (.iload_n 1, 1) := by decide +kernel
theorem dD_twoAtOnce_24 : decode mD_twoAtOnce.2.1 24 = .ok (.iload_n 3, 1) := by decide +kernel
theorem dD_twoAtOnce_25 : decode mD_twoAtOnce.2.1 25 = .ok (.invokestatic 209, 3) := by decide +kernel
theorem dD_twoAtOnce_28 : decode mD_twoAtOnce.2.1 28 = .ok (.ifCond .eq 24, 3) := by decide +kernel
theorem dD_twoAtOnce_31 : decode mD_twoAtOnce.2.1 31 = .ok (.aload_n 0, 1) := by decide +kernel
theorem dD_twoAtOnce_32 : decode mD_twoAtOnce.2.1 32 = .ok (.getfield 12, 3) := by decide +kernel
theorem dD_twoAtOnce_35 : decode mD_twoAtOnce.2.1 35 = .ok (.getfield 148, 3) := by decide +kernel
theorem dD_twoAtOnce_38 : decode mD_twoAtOnce.2.1 38 = .ok (.iload_n 3, 1) := by decide +kernel
theorem dD_twoAtOnce_39 : decode mD_twoAtOnce.2.1 39 = .ok (.iload_n 1, 1) := by decide +kernel
theorem dD_twoAtOnce_40 : decode mD_twoAtOnce.2.1 40 = .ok (.invokevirtual 382, 3) := by decide +kernel
theorem dD_twoAtOnce_43 : decode mD_twoAtOnce.2.1 43 = .ok (.ifCond .eq 9, 3) := by decide +kernel
theorem dD_twoAtOnce_46 : decode mD_twoAtOnce.2.1 46 = .ok (.iload_n 2, 1) := by decide +kernel
theorem dD_twoAtOnce_47 : decode mD_twoAtOnce.2.1 47 = .ok (.iconst 1, 1) := by decide +kernel
theorem dD_twoAtOnce_48 : decode mD_twoAtOnce.2.1 48 = .ok (.iload_n 3, 1) := by decide +kernel
theorem dD_twoAtOnce_49 : decode mD_twoAtOnce.2.1 49 = .ok (.ishl, 1) := by decide +kernel
theorem dD_twoAtOnce_50 : decode mD_twoAtOnce.2.1 50 = .ok (.ior, 1) := by decide +kernel
theorem dD_twoAtOnce_51 : decode mD_twoAtOnce.2.1 51 = .ok (.istore_n 2, 1) := by decide +kernel
theorem dD_twoAtOnce_52 : decode mD_twoAtOnce.2.1 52 = .ok (.iinc 3 1, 3) := by decide +kernel
theorem dD_twoAtOnce_55 : decode mD_twoAtOnce.2.1 55 = .ok (.goto (-46), 3) := by decide +kernel
theorem dD_twoAtOnce_58 : decode mD_twoAtOnce.2.1 58 = .ok (.iload_n 2, 1) := by decide +kernel
theorem dD_twoAtOnce_59 : decode mD_twoAtOnce.2.1 59 = .ok (.ireturn, 1) := by decide +kernel
theorem dD_hurry_0 : decode mD_hurry.2.1 0 = .ok (.iload_n 2, 1) := by decide +kernel
theorem dD_hurry_1 : decode mD_hurry.2.1 1 = .ok (.iconst 1, 1) := by decide +kernel
theorem dD_hurry_2 : decode mD_hurry.2.1 2 = .ok (.iconst 2, 1) := by decide +kernel
theorem dD_hurry_3 : decode mD_hurry.2.1 3 = .ok (.invokestatic 65, 3) := by decide +kernel
theorem dD_hurry_6 : decode mD_hurry.2.1 6 = .ok (.ifCond .eq 18, 3) := by decide +kernel
theorem dD_hurry_9 : decode mD_hurry.2.1 9 = .ok (.iload_n 3, 1) := by decide +kernel
theorem dD_hurry_10 : decode mD_hurry.2.1 10 = .ok (.iconst 1, 1) := by decide +kernel
theorem dD_hurry_11 : decode mD_hurry.2.1 11 = .ok (.sipush 999, 3) := by decide +kernel
theorem dD_hurry_14 : decode mD_hurry.2.1 14 = .ok (.invokestatic 65, 3) := by decide +kernel
theorem dD_hurry_17 : decode mD_hurry.2.1 17 = .ok (.ifCond .eq 7, 3) := by decide +kernel
theorem dD_hurry_20 : decode mD_hurry.2.1 20 = .ok (.iconst 1, 1) := by decide +kernel
theorem dD_hurry_21 : decode mD_hurry.2.1 21 = .ok (.goto 4, 3) := by decide +kernel
theorem dD_hurry_24 : decode mD_hurry.2.1 24 = .ok (.iconst 0, 1) := by decide +kernel
theorem dD_hurry_25 : decode mD_hurry.2.1 25 = .ok (.istore 4, 2) := by decide +kernel
theorem dD_hurry_27 : decode mD_hurry.2.1 27 = .ok (.aload_n 0, 1) := by decide +kernel
theorem dD_hurry_28 : decode mD_hurry.2.1 28 = .ok (.getfield 12, 3) := by decide +kernel
theorem dD_hurry_31 : decode mD_hurry.2.1 31 = .ok (.getfield 74, 3) := by decide +kernel
theorem dD_hurry_34 : decode mD_hurry.2.1 34 = .ok (.iload_n 1, 1) := by decide +kernel
theorem dD_hurry_35 : decode mD_hurry.2.1 35 = .ok (.invokevirtual 88, 3) := by decide +kernel
theorem dD_hurry_38 : decode mD_hurry.2.1 38 = .ok (.ifCond .eq 8, 3) := by decide +kernel
theorem dD_hurry_41 : decode mD_hurry.2.1 41 = .ok (.iload 4, 2) := by decide +kernel
theorem dD_hurry_43 : decode mD_hurry.2.1 43 = .ok (.ifCond .ne 10, 3) := by decide +kernel
theorem dD_hurry_46 : decode mD_hurry.2.1 46 = .ok (.aload_n 0, 1) := by decide +kernel
theorem dD_hurry_47 : decode mD_hurry.2.1 47 = .ok (.ldc 69, 2) := by decide +kernel
theorem dD_hurry_49 : decode mD_hurry.2.1 49 = .ok (.invokevirtual 70, 3) := by decide +kernel
theorem dD_hurry_52 : decode mD_hurry.2.1 52 = .ok (.ireturn, 1) := by decide +kernel
theorem dD_hurry_53 : decode mD_hurry.2.1 53 = .ok (.aload_n 0, 1) := by decide +kernel
theorem dD_hurry_54 : decode mD_hurry.2.1 54 = .ok (.getfield 12, 3) := by decide +kernel
theorem dD_hurry_57 : decode mD_hurry.2.1 57 = .ok (.getfield 74, 3) := by decide +kernel
theorem dD_hurry_60 : decode mD_hurry.2.1 60 = .ok (.getfield 91, 3) := by decide +kernel
theorem dD_hurry_63 : decode mD_hurry.2.1 63 = .ok (.iload_n 1, 1) := by decide +kernel
theorem dD_hurry_64 : decode mD_hurry.2.1 64 = .ok (.iaload, 1) := by decide +kernel
theorem dD_hurry_65 : decode mD_hurry.2.1 65 = .ok (.iconst 5, 1) := by decide +kernel
theorem dD_hurry_66 : decode mD_hurry.2.1 66 = .ok (.if_icmp .ne 10, 3) := by decide +kernel
theorem dD_hurry_69 : decode mD_hurry.2.1 69 = .ok (.aload_n 0, 1) := by decide +kernel
theorem dD_hurry_70 : decode mD_hurry.2.1 70 = .ok (.ldc 98, 2) := by decide +kernel
theorem dD_hurry_72 : decode mD_hurry.2.1 72 = .ok (.invokevirtual 70, 3) := by decide +kernel
theorem dD_hurry_75 : decode mD_hurry.2.1 75 = .ok (.ireturn, 1) := by decide +kernel
theorem dD_hurry_76 : decode mD_hurry.2.1 76 = .ok (.aload_n 0, 1) := by decide +kernel
theorem dD_hurry_77 : decode mD_hurry.2.1 77 = .ok (.getfield 12, 3) := by decide +kernel
theorem dD_hurry_80 : decode mD_hurry.2.1 80 = .ok (.getfield 102, 3) := by decide +kernel
theorem dD_hurry_83 : decode mD_hurry.2.1 83 = .ok (.iload_n 1, 1) := by decide +kernel
theorem dD_hurry_84 : decode mD_hurry.2.1 84 = .ok (.invokevirtual 106, 3) := by decide +kernel
theorem dD_hurry_87 : decode mD_hurry.2.1 87 = .ok (.ifCond .gt 19, 3) := by decide +kernel
theorem dD_hurry_90 : decode mD_hurry.2.1 90 = .ok (.aload_n 0, 1) := by decide +kernel
theorem dD_hurry_91 : decode mD_hurry.2.1 91 = .ok (.getfield 12, 3) := by decide +kernel
theorem dD_hurry_94 : decode mD_hurry.2.1 94 = .ok (.getfield 74, 3) := by decide +kernel
theorem dD_hurry_97 : decode mD_hurry.2.1 97 = .ok (.getfield 99, 3) := by decide +kernel
theorem dD_hurry_100 : decode mD_hurry.2.1 100 = .ok (.iload_n 1, 1) := by decide +kernel
theorem dD_hurry_101 : decode mD_hurry.2.1 101 = .ok (.iaload, 1) := by decide +kernel
theorem dD_hurry_102 : decode mD_hurry.2.1 102 = .ok (.iload_n 2, 1) := by decide +kernel
theorem dD_hurry_103 : decode mD_hurry.2.1 103 = .ok (.if_icmp .gt 10, 3) := by decide +kernel
theorem dD_hurry_106 : decode mD_hurry.2.1 106 = .ok (.aload_n 0, 1) := by decide +kernel
theorem dD_hurry_107 : decode mD_hurry.2.1 107 = .ok (.ldc 111, 2) := by decide +kernel
theorem dD_hurry_109 : decode mD_hurry.2.1 109 = .ok (.invokevirtual 70, 3) := by decide +kernel
theorem dD_hurry_112 : decode mD_hurry.2.1 112 = .ok (.ireturn, 1) := by decide +kernel
theorem dD_hurry_113 : decode mD_hurry.2.1 113 = .ok (.aload_n 0, 1) := by decide +kernel
theorem dD_hurry_114 : decode mD_hurry.2.1 114 = .ok (.getfield 12, 3) := by decide +kernel
theorem dD_hurry_117 : decode mD_hurry.2.1 117 = .ok (.getfield 102, 3) := by decide +kernel
theorem dD_hurry_120 : decode mD_hurry.2.1 120 = .ok (.getfield 278, 3) := by decide +kernel
theorem dD_hurry_123 : decode mD_hurry.2.1 123 = .ok (.iconst 5, 1) := by decide +kernel
theorem dD_hurry_124 : decode mD_hurry.2.1 124 = .ok (.if_icmp .lt 10, 3) := by decide +kernel
theorem dD_hurry_127 : decode mD_hurry.2.1 127 = .ok (.aload_n 0, 1) := by decide +kernel
theorem dD_hurry_128 : decode mD_hurry.2.1 128 = .ok (.ldc 83, 2) := by decide +kernel
theorem dD_hurry_130 : decode mD_hurry.2.1 130 = .ok (.invokevirtual 70, 3) := by decide +kernel
theorem dD_hurry_133 : decode mD_hurry.2.1 133 = .ok (.ireturn, 1) := by decide +kernel
theorem dD_hurry_134 : decode mD_hurry.2.1 134 = .ok (.aload_n 0, 1) := by decide +kernel
theorem dD_hurry_135 : decode mD_hurry.2.1 135 = .ok (.getfield 12, 3) := by decide +kernel
theorem dD_hurry_138 : decode mD_hurry.2.1 138 = .ok (.getfield 102, 3) := by decide +kernel
theorem dD_hurry_141 : decode mD_hurry.2.1 141 = .ok (.iload_n 1, 1) := by decide +kernel
theorem dD_hurry_142 : decode mD_hurry.2.1 142 = .ok (.iload_n 2, 1) := by decide +kernel
theorem dD_hurry_143 : decode mD_hurry.2.1 143 = .ok (.iload_n 3, 1) := by decide +kernel
theorem dD_hurry_144 : decode mD_hurry.2.1 144 = .ok (.invokevirtual 279, 3) := by decide +kernel
theorem dD_hurry_147 : decode mD_hurry.2.1 147 = .ok (.ireturn, 1) := by decide +kernel
theorem dD_calm_0 : decode mD_calm.2.1 0 = .ok (.aload_n 0, 1) := by decide +kernel
theorem dD_calm_1 : decode mD_calm.2.1 1 = .ok (.getfield 12, 3) := by decide +kernel
theorem dD_calm_4 : decode mD_calm.2.1 4 = .ok (.getfield 102, 3) := by decide +kernel
theorem dD_calm_7 : decode mD_calm.2.1 7 = .ok (.getfield 278, 3) := by decide +kernel
theorem dD_calm_10 : decode mD_calm.2.1 10 = .ok (.istore_n 1, 1) := by decide +kernel
theorem dD_calm_11 : decode mD_calm.2.1 11 = .ok (.aload_n 0, 1) := by decide +kernel
theorem dD_calm_12 : decode mD_calm.2.1 12 = .ok (.getfield 12, 3) := by decide +kernel
theorem dD_calm_15 : decode mD_calm.2.1 15 = .ok (.getfield 102, 3) := by decide +kernel
theorem dD_calm_18 : decode mD_calm.2.1 18 = .ok (.iconst 0, 1) := by decide +kernel
theorem dD_calm_19 : decode mD_calm.2.1 19 = .ok (.putfield 278, 3) := by decide +kernel
theorem dD_calm_22 : decode mD_calm.2.1 22 = .ok (.iload_n 1, 1) := by decide +kernel
theorem dD_calm_23 : decode mD_calm.2.1 23 = .ok (.ireturn, 1) := by decide +kernel
theorem dD_least_0 : decode mD_least.2.1 0 = .ok (.iload_n 1, 1) := by decide +kernel
theorem dD_least_1 : decode mD_least.2.1 1 = .ok (.iconst 0, 1) := by decide +kernel
theorem dD_least_2 : decode mD_least.2.1 2 = .ok (.sipush 9999, 3) := by decide +kernel
theorem dD_least_5 : decode mD_least.2.1 5 = .ok (.invokestatic 65, 3) := by decide +kernel
theorem dD_least_8 : decode mD_least.2.1 8 = .ok (.ifCond .eq 23, 3) := by decide +kernel
theorem dD_least_11 : decode mD_least.2.1 11 = .ok (.iload_n 2, 1) := by decide +kernel
theorem dD_least_12 : decode mD_least.2.1 12 = .ok (.iconst (-1), 1) := by decide +kernel
theorem dD_least_13 : decode mD_least.2.1 13 = .ok (.aload_n 0, 1) := by decide +kernel
theorem dD_least_14 : decode mD_least.2.1 14 = .ok (.getfield 12, 3) := by decide +kernel
theorem dD_least_17 : decode mD_least.2.1 17 = .ok (.getfield 102, 3) := by decide +kernel
theorem dD_least_20 : decode mD_least.2.1 20 = .ok (.getfield 278, 3) := by decide +kernel
theorem dD_least_23 : decode mD_least.2.1 23 = .ok (.iconst 1, 1) := by decide +kernel
theorem dD_least_24 : decode mD_least.2.1 24 = .ok (.isub, 1) := by decide +kernel
theorem dD_least_25 : decode mD_least.2.1 25 = .ok (.invokestatic 65, 3) := by decide +kernel
theorem dD_least_28 : decode mD_least.2.1 28 = .ok (.ifCond .ne 10, 3) := by decide +kernel
theorem dD_least_31 : decode mD_least.2.1 31 = .ok (.aload_n 0, 1) := by decide +kernel
theorem dD_least_32 : decode mD_least.2.1 32 = .ok (.ldc 69, 2) := by decide +kernel
theorem dD_least_34 : decode mD_least.2.1 34 = .ok (.invokevirtual 70, 3) := by decide +kernel
theorem dD_least_37 : decode mD_least.2.1 37 = .ok (.ireturn, 1) := by decide +kernel
theorem dD_least_38 : decode mD_least.2.1 38 = .ok (.aload_n 0, 1) := by decide +kernel
theorem dD_least_39 : decode mD_least.2.1 39 = .ok (.iload_n 1, 1) := by decide +kernel
theorem dD_least_40 : decode mD_least.2.1 40 = .ok (.invokevirtual 281, 3) := by decide +kernel
theorem dD_least_43 : decode mD_least.2.1 43 = .ok (.istore_n 3, 1) := by decide +kernel
theorem dD_least_44 : decode mD_least.2.1 44 = .ok (.iload_n 3, 1) := by decide +kernel
theorem dD_least_45 : decode mD_least.2.1 45 = .ok (.ifCond .ge 10, 3) := by decide +kernel
theorem dD_least_48 : decode mD_least.2.1 48 = .ok (.aload_n 0, 1) := by decide +kernel
theorem dD_least_49 : decode mD_least.2.1 49 = .ok (.ldc 125, 2) := by decide +kernel
theorem dD_least_51 : decode mD_least.2.1 51 = .ok (.invokevirtual 70, 3) := by decide +kernel
theorem dD_least_54 : decode mD_least.2.1 54 = .ok (.ireturn, 1) := by decide +kernel
theorem dD_least_55 : decode mD_least.2.1 55 = .ok (.iload_n 2, 1) := by decide +kernel
theorem dD_least_56 : decode mD_least.2.1 56 = .ok (.ifCond .ge 7, 3) := by decide +kernel
theorem dD_least_59 : decode mD_least.2.1 59 = .ok (.iload_n 3, 1) := by decide +kernel
theorem dD_least_60 : decode mD_least.2.1 60 = .ok (.goto 9, 3) := by decide +kernel
theorem dD_least_63 : decode mD_least.2.1 63 = .ok (.aload_n 0, 1) := by decide +kernel
theorem dD_least_64 : decode mD_least.2.1 64 = .ok (.getfield 53, 3) := by decide +kernel
theorem dD_least_67 : decode mD_least.2.1 67 = .ok (.iload_n 2, 1) := by decide +kernel
theorem dD_least_68 : decode mD_least.2.1 68 = .ok (.iaload, 1) := by decide +kernel
theorem dD_least_69 : decode mD_least.2.1 69 = .ok (.ireturn, 1) := by decide +kernel
theorem dD_cheapest_0 : decode mD_cheapest.2.1 0 = .ok (.aload_n 0, 1) := by decide +kernel
theorem dD_cheapest_1 : decode mD_cheapest.2.1 1 = .ok (.invokevirtual 272, 3) := by decide +kernel
theorem dD_cheapest_4 : decode mD_cheapest.2.1 4 = .ok (.istore_n 2, 1) := by decide +kernel
theorem dD_cheapest_5 : decode mD_cheapest.2.1 5 = .ok (.iconst (-1), 1) := by decide +kernel
theorem dD_cheapest_6 : decode mD_cheapest.2.1 6 = .ok (.istore_n 3, 1) := by decide +kernel
theorem dD_cheapest_7 : decode mD_cheapest.2.1 7 = .ok (.iconst 1, 1) := by decide +kernel
theorem dD_cheapest_8 : decode mD_cheapest.2.1 8 = .ok (.istore 4, 2) := by decide +kernel
theorem dD_cheapest_10 : decode mD_cheapest.2.1 10 = .ok (.iconst 0, 1) := by decide +kernel
theorem dD_cheapest_11 : decode mD_cheapest.2.1 11 = .ok (.istore 5, 2) := by decide +kernel
theorem dD_cheapest_13 : decode mD_cheapest.2.1 13 = .ok (.iload 5, 2) := by decide +kernel
theorem dD_cheapest_15 : decode mD_cheapest.2.1 15 = .ok (.iconst 5, 1) := by decide +kernel
theorem dD_cheapest_16 : decode mD_cheapest.2.1 16 = .ok (.if_icmp .ge 17, 3) := by decide +kernel
theorem dD_cheapest_19 : decode mD_cheapest.2.1 19 = .ok (.aload_n 0, 1) := by decide +kernel
theorem dD_cheapest_20 : decode mD_cheapest.2.1 20 = .ok (.getfield 50, 3) := by decide +kernel
theorem dD_cheapest_23 : decode mD_cheapest.2.1 23 = .ok (.iload 5, 2) := by decide +kernel
theorem dD_cheapest_25 : decode mD_cheapest.2.1 25 = .ok (.iconst 0, 1) := by decide +kernel
theorem dD_cheapest_26 : decode mD_cheapest.2.1 26 = .ok (.iastore, 1) := by decide +kernel
theorem dD_cheapest_27 : decode mD_cheapest.2.1 27 = .ok (.iinc 5 1, 3) := by decide +kernel
theorem dD_cheapest_30 : decode mD_cheapest.2.1 30 = .ok (.goto (-17), 3) := by decide +kernel
theorem dD_cheapest_33 : decode mD_cheapest.2.1 33 = .ok (.iconst 0, 1) := by decide +kernel
theorem dD_cheapest_34 : decode mD_cheapest.2.1 34 = .ok (.istore 5, 2) := by decide +kernel
theorem dD_cheapest_36 : decode mD_cheapest.2.1 36 = .ok (.iload 5, 2) := by decide +kernel
theorem dD_cheapest_38 : decode mD_cheapest.2.1 38 = .ok (.sipush 243, 3) := by decide +kernel
theorem dD_cheapest_41 : decode mD_cheapest.2.1 41 = .ok (.if_icmp .ge 86, 3) := by decide +kernel
theorem dD_cheapest_44 : decode mD_cheapest.2.1 44 = .ok (.iload 4, 2) := by decide +kernel
theorem dD_cheapest_46 : decode mD_cheapest.2.1 46 = .ok (.ifCond .eq 81, 3) := by decide +kernel
theorem dD_cheapest_49 : decode mD_cheapest.2.1 49 = .ok (.aload_n 0, 1) := by decide +kernel
theorem dD_cheapest_50 : decode mD_cheapest.2.1 50 = .ok (.getfield 12, 3) := by decide +kernel
theorem dD_cheapest_53 : decode mD_cheapest.2.1 53 = .ok (.getfield 102, 3) := by decide +kernel
theorem dD_cheapest_56 : decode mD_cheapest.2.1 56 = .ok (.aload_n 0, 1) := by decide +kernel
theorem dD_cheapest_57 : decode mD_cheapest.2.1 57 = .ok (.getfield 50, 3) := by decide +kernel
theorem dD_cheapest_60 : decode mD_cheapest.2.1 60 = .ok (.invokevirtual 301, 3) := by decide +kernel
theorem dD_cheapest_63 : decode mD_cheapest.2.1 63 = .ok (.istore 6, 2) := by decide +kernel
theorem dD_cheapest_65 : decode mD_cheapest.2.1 65 = .ok (.iload_n 3, 1) := by decide +kernel
theorem dD_cheapest_66 : decode mD_cheapest.2.1 66 = .ok (.ifCond .lt 9, 3) := by decide +kernel
theorem dD_cheapest_69 : decode mD_cheapest.2.1 69 = .ok (.iload 6, 2) := by decide +kernel
theorem dD_cheapest_71 : decode mD_cheapest.2.1 71 = .ok (.iload_n 3, 1) := by decide +kernel
theorem dD_cheapest_72 : decode mD_cheapest.2.1 72 = .ok (.if_icmp .ge 33, 3) := by decide +kernel
theorem dD_cheapest_75 : decode mD_cheapest.2.1 75 = .ok (.aload_n 0, 1) := by decide +kernel
theorem dD_cheapest_76 : decode mD_cheapest.2.1 76 = .ok (.aload_n 0, 1) := by decide +kernel
theorem dD_cheapest_77 : decode mD_cheapest.2.1 77 = .ok (.getfield 50, 3) := by decide +kernel
theorem dD_cheapest_80 : decode mD_cheapest.2.1 80 = .ok (.iload_n 2, 1) := by decide +kernel
theorem dD_cheapest_81 : decode mD_cheapest.2.1 81 = .ok (.invokevirtual 297, 3) := by decide +kernel
theorem dD_cheapest_84 : decode mD_cheapest.2.1 84 = .ok (.iload_n 1, 1) := by decide +kernel
theorem dD_cheapest_85 : decode mD_cheapest.2.1 85 = .ok (.if_icmp .gt 20, 3) := by decide +kernel
theorem dD_cheapest_88 : decode mD_cheapest.2.1 88 = .ok (.iload 6, 2) := by decide +kernel
theorem dD_cheapest_90 : decode mD_cheapest.2.1 90 = .ok (.istore_n 3, 1) := by decide +kernel
theorem dD_cheapest_91 : decode mD_cheapest.2.1 91 = .ok (.aload_n 0, 1) := by decide +kernel
theorem dD_cheapest_92 : decode mD_cheapest.2.1 92 = .ok (.getfield 50, 3) := by decide +kernel
theorem dD_cheapest_95 : decode mD_cheapest.2.1 95 = .ok (.iconst 0, 1) := by decide +kernel
theorem dD_cheapest_96 : decode mD_cheapest.2.1 96 = .ok (.aload_n 0, 1) := by decide +kernel
theorem dD_cheapest_97 : decode mD_cheapest.2.1 97 = .ok (.getfield 53, 3) := by decide +kernel
theorem dD_cheapest_100 : decode mD_cheapest.2.1 100 = .ok (.iconst 0, 1) := by decide +kernel
theorem dD_cheapest_101 : decode mD_cheapest.2.1 101 = .ok (.iconst 5, 1) := by decide +kernel
theorem dD_cheapest_102 : decode mD_cheapest.2.1 102 = .ok (.invokestatic 326, 3) := by decide +kernel
theorem dD_cheapest_105 : decode mD_cheapest.2.1 105 = .ok (.aload_n 0, 1) := by decide +kernel
theorem dD_cheapest_106 : decode mD_cheapest.2.1 106 = .ok (.getfield 12, 3) := by decide +kernel
theorem dD_cheapest_109 : decode mD_cheapest.2.1 109 = .ok (.getfield 102, 3) := by decide +kernel
theorem dD_cheapest_112 : decode mD_cheapest.2.1 112 = .ok (.aload_n 0, 1) := by decide +kernel
theorem dD_cheapest_113 : decode mD_cheapest.2.1 113 = .ok (.getfield 50, 3) := by decide +kernel
theorem dD_cheapest_116 : decode mD_cheapest.2.1 116 = .ok (.invokevirtual 395, 3) := by decide +kernel
theorem dD_cheapest_119 : decode mD_cheapest.2.1 119 = .ok (.istore 4, 2) := by decide +kernel
theorem dD_cheapest_121 : decode mD_cheapest.2.1 121 = .ok (.iinc 5 1, 3) := by decide +kernel
theorem dD_cheapest_124 : decode mD_cheapest.2.1 124 = .ok (.goto (-88), 3) := by decide +kernel
theorem dD_cheapest_127 : decode mD_cheapest.2.1 127 = .ok (.iload_n 3, 1) := by decide +kernel
theorem dD_cheapest_128 : decode mD_cheapest.2.1 128 = .ok (.ireturn, 1) := by decide +kernel
theorem dD_endHurried_0 : decode mD_endHurried.2.1 0 = .ok (.aload_n 0, 1) := by decide +kernel
theorem dD_endHurried_1 : decode mD_endHurried.2.1 1 = .ok (.getfield 22, 3) := by decide +kernel
theorem dD_endHurried_4 : decode mD_endHurried.2.1 4 = .ok (.aload_n 0, 1) := by decide +kernel
theorem dD_endHurried_5 : decode mD_endHurried.2.1 5 = .ok (.getfield 12, 3) := by decide +kernel
theorem dD_endHurried_8 : decode mD_endHurried.2.1 8 = .ok (.iload_n 2, 1) := by decide +kernel
theorem dD_endHurried_9 : decode mD_endHurried.2.1 9 = .ok (.invokevirtual 348, 3) := by decide +kernel
theorem dD_endHurried_12 : decode mD_endHurried.2.1 12 = .ok (.iconst 0, 1) := by decide +kernel
theorem dD_endHurried_13 : decode mD_endHurried.2.1 13 = .ok (.istore_n 3, 1) := by decide +kernel
theorem dD_endHurried_14 : decode mD_endHurried.2.1 14 = .ok (.iload_n 3, 1) := by decide +kernel
theorem dD_endHurried_15 : decode mD_endHurried.2.1 15 = .ok (.aload_n 0, 1) := by decide +kernel
theorem dD_endHurried_16 : decode mD_endHurried.2.1 16 = .ok (.getfield 12, 3) := by decide +kernel
theorem dD_endHurried_19 : decode mD_endHurried.2.1 19 = .ok (.getfield 102, 3) := by decide +kernel
theorem dD_endHurried_22 : decode mD_endHurried.2.1 22 = .ok (.getfield 278, 3) := by decide +kernel
theorem dD_endHurried_25 : decode mD_endHurried.2.1 25 = .ok (.if_icmp .ge 35, 3) := by decide +kernel
theorem dD_endHurried_28 : decode mD_endHurried.2.1 28 = .ok (.aload_n 0, 1) := by decide +kernel
theorem dD_endHurried_29 : decode mD_endHurried.2.1 29 = .ok (.getfield 22, 3) := by decide +kernel
theorem dD_endHurried_32 : decode mD_endHurried.2.1 32 = .ok (.getfield 356, 3) := by decide +kernel
theorem dD_endHurried_35 : decode mD_endHurried.2.1 35 = .ok (.aload_n 0, 1) := by decide +kernel
theorem dD_endHurried_36 : decode mD_endHurried.2.1 36 = .ok (.getfield 12, 3) := by decide +kernel
theorem dD_endHurried_39 : decode mD_endHurried.2.1 39 = .ok (.getfield 102, 3) := by decide +kernel
theorem dD_endHurried_42 : decode mD_endHurried.2.1 42 = .ok (.getfield 394, 3) := by decide +kernel
theorem dD_endHurried_45 : decode mD_endHurried.2.1 45 = .ok (.iload_n 3, 1) := by decide +kernel
theorem dD_endHurried_46 : decode mD_endHurried.2.1 46 = .ok (.iaload, 1) := by decide +kernel
theorem dD_endHurried_47 : decode mD_endHurried.2.1 47 = .ok (.dup2, 1) := by decide +kernel
theorem dD_endHurried_48 : decode mD_endHurried.2.1 48 = .ok (.iaload, 1) := by decide +kernel
theorem dD_endHurried_49 : decode mD_endHurried.2.1 49 = .ok (.aload_n 1, 1) := by decide +kernel
theorem dD_endHurried_50 : decode mD_endHurried.2.1 50 = .ok (.iload_n 3, 1) := by decide +kernel
theorem dD_endHurried_51 : decode mD_endHurried.2.1 51 = .ok (.iaload, 1) := by decide +kernel
theorem dD_endHurried_52 : decode mD_endHurried.2.1 52 = .ok (.isub, 1) := by decide +kernel
theorem dD_endHurried_53 : decode mD_endHurried.2.1 53 = .ok (.iastore, 1) := by decide +kernel
theorem dD_endHurried_54 : decode mD_endHurried.2.1 54 = .ok (.iinc 3 1, 3) := by decide +kernel
theorem dD_endHurried_57 : decode mD_endHurried.2.1 57 = .ok (.goto (-43), 3) := by decide +kernel
theorem dD_endHurried_60 : decode mD_endHurried.2.1 60 = .ok (.aload_n 0, 1) := by decide +kernel
theorem dD_endHurried_61 : decode mD_endHurried.2.1 61 = .ok (.getfield 22, 3) := by decide +kernel
theorem dD_endHurried_64 : decode mD_endHurried.2.1 64 = .ok (.aload_n 0, 1) := by decide +kernel
theorem dD_endHurried_65 : decode mD_endHurried.2.1 65 = .ok (.getfield 12, 3) := by decide +kernel
theorem dD_endHurried_68 : decode mD_endHurried.2.1 68 = .ok (.invokevirtual 352, 3) := by decide +kernel
theorem dD_endHurried_71 : decode mD_endHurried.2.1 71 = .ok (.ireturn, 1) := by decide +kernel
theorem dD_proves_0 : decode mD_proves.2.1 0 = .ok (.iload_n 1, 1) := by decide +kernel
theorem dD_proves_1 : decode mD_proves.2.1 1 = .ok (.invokestatic 284, 3) := by decide +kernel
theorem dD_proves_4 : decode mD_proves.2.1 4 = .ok (.ifCond .eq 18, 3) := by decide +kernel
theorem dD_proves_7 : decode mD_proves.2.1 7 = .ok (.iload_n 2, 1) := by decide +kernel
theorem dD_proves_8 : decode mD_proves.2.1 8 = .ok (.iconst 0, 1) := by decide +kernel
theorem dD_proves_9 : decode mD_proves.2.1 9 = .ok (.sipush 9999, 3) := by decide +kernel
theorem dD_proves_12 : decode mD_proves.2.1 12 = .ok (.invokestatic 65, 3) := by decide +kernel
theorem dD_proves_15 : decode mD_proves.2.1 15 = .ok (.ifCond .eq 7, 3) := by decide +kernel
theorem dD_proves_18 : decode mD_proves.2.1 18 = .ok (.iload_n 3, 1) := by decide +kernel
theorem dD_proves_19 : decode mD_proves.2.1 19 = .ok (.ifCond .ge 10, 3) := by decide +kernel
theorem dD_proves_22 : decode mD_proves.2.1 22 = .ok (.aload_n 0, 1) := by decide +kernel
theorem dD_proves_23 : decode mD_proves.2.1 23 = .ok (.ldc 69, 2) := by decide +kernel
theorem dD_proves_25 : decode mD_proves.2.1 25 = .ok (.invokevirtual 70, 3) := by decide +kernel
theorem dD_proves_28 : decode mD_proves.2.1 28 = .ok (.ireturn, 1) := by decide +kernel
theorem dD_proves_29 : decode mD_proves.2.1 29 = .ok (.aload_n 0, 1) := by decide +kernel
theorem dD_proves_30 : decode mD_proves.2.1 30 = .ok (.getfield 42, 3) := by decide +kernel
theorem dD_proves_33 : decode mD_proves.2.1 33 = .ok (.iload_n 1, 1) := by decide +kernel
theorem dD_proves_34 : decode mD_proves.2.1 34 = .ok (.aaload, 1) := by decide +kernel
theorem dD_proves_35 : decode mD_proves.2.1 35 = .ok (.astore 4, 2) := by decide +kernel
theorem dD_proves_37 : decode mD_proves.2.1 37 = .ok (.aload 4, 2) := by decide +kernel
theorem dD_proves_39 : decode mD_proves.2.1 39 = .ok (.getfield 287, 3) := by decide +kernel
theorem dD_proves_42 : decode mD_proves.2.1 42 = .ok (.ifCond .ne 10, 3) := by decide +kernel
theorem dD_proves_45 : decode mD_proves.2.1 45 = .ok (.aload_n 0, 1) := by decide +kernel
theorem dD_proves_46 : decode mD_proves.2.1 46 = .ok (.ldc 125, 2) := by decide +kernel
theorem dD_proves_48 : decode mD_proves.2.1 48 = .ok (.invokevirtual 70, 3) := by decide +kernel
theorem dD_proves_51 : decode mD_proves.2.1 51 = .ok (.ireturn, 1) := by decide +kernel
theorem dD_proves_52 : decode mD_proves.2.1 52 = .ok (.aload_n 0, 1) := by decide +kernel
theorem dD_proves_53 : decode mD_proves.2.1 53 = .ok (.getfield 12, 3) := by decide +kernel
theorem dD_proves_56 : decode mD_proves.2.1 56 = .ok (.getfield 102, 3) := by decide +kernel
theorem dD_proves_59 : decode mD_proves.2.1 59 = .ok (.aload 4, 2) := by decide +kernel
theorem dD_proves_61 : decode mD_proves.2.1 61 = .ok (.invokevirtual 290, 3) := by decide +kernel
theorem dD_proves_64 : decode mD_proves.2.1 64 = .ok (.istore 5, 2) := by decide +kernel
theorem dD_proves_66 : decode mD_proves.2.1 66 = .ok (.iload 5, 2) := by decide +kernel
theorem dD_proves_68 : decode mD_proves.2.1 68 = .ok (.ifCond .lt 6, 3) := by decide +kernel
theorem dD_proves_71 : decode mD_proves.2.1 71 = .ok (.iload 5, 2) := by decide +kernel
theorem dD_proves_73 : decode mD_proves.2.1 73 = .ok (.ireturn, 1) := by decide +kernel
theorem dD_proves_74 : decode mD_proves.2.1 74 = .ok (.aload_n 0, 1) := by decide +kernel
theorem dD_proves_75 : decode mD_proves.2.1 75 = .ok (.aload 4, 2) := by decide +kernel
theorem dD_proves_77 : decode mD_proves.2.1 77 = .ok (.getfield 294, 3) := by decide +kernel
theorem dD_proves_80 : decode mD_proves.2.1 80 = .ok (.aload_n 0, 1) := by decide +kernel
theorem dD_proves_81 : decode mD_proves.2.1 81 = .ok (.invokevirtual 272, 3) := by decide +kernel
theorem dD_proves_84 : decode mD_proves.2.1 84 = .ok (.invokevirtual 297, 3) := by decide +kernel
theorem dD_proves_87 : decode mD_proves.2.1 87 = .ok (.iload_n 2, 1) := by decide +kernel
theorem dD_proves_88 : decode mD_proves.2.1 88 = .ok (.if_icmp .le 6, 3) := by decide +kernel
theorem dD_proves_91 : decode mD_proves.2.1 91 = .ok (.bipush 100, 2) := by decide +kernel
theorem dD_proves_93 : decode mD_proves.2.1 93 = .ok (.ireturn, 1) := by decide +kernel
theorem dD_proves_94 : decode mD_proves.2.1 94 = .ok (.aload_n 0, 1) := by decide +kernel
theorem dD_proves_95 : decode mD_proves.2.1 95 = .ok (.getfield 12, 3) := by decide +kernel
theorem dD_proves_98 : decode mD_proves.2.1 98 = .ok (.getfield 102, 3) := by decide +kernel
theorem dD_proves_101 : decode mD_proves.2.1 101 = .ok (.aload 4, 2) := by decide +kernel
theorem dD_proves_103 : decode mD_proves.2.1 103 = .ok (.getfield 294, 3) := by decide +kernel
theorem dD_proves_106 : decode mD_proves.2.1 106 = .ok (.invokevirtual 301, 3) := by decide +kernel
theorem dD_proves_109 : decode mD_proves.2.1 109 = .ok (.iload_n 3, 1) := by decide +kernel
theorem dD_proves_110 : decode mD_proves.2.1 110 = .ok (.if_icmp .le 8, 3) := by decide +kernel
theorem dD_proves_113 : decode mD_proves.2.1 113 = .ok (.bipush 101, 2) := by decide +kernel
theorem dD_proves_115 : decode mD_proves.2.1 115 = .ok (.goto 4, 3) := by decide +kernel
theorem dD_proves_118 : decode mD_proves.2.1 118 = .ok (.iconst (-1), 1) := by decide +kernel
theorem dD_proves_119 : decode mD_proves.2.1 119 = .ok (.ireturn, 1) := by decide +kernel
theorem dD_isSheet_0 : decode mD_isSheet.2.1 0 = .ok (.iload_n 0, 1) := by decide +kernel
theorem dD_isSheet_1 : decode mD_isSheet.2.1 1 = .ok (.iconst 0, 1) := by decide +kernel
theorem dD_isSheet_2 : decode mD_isSheet.2.1 2 = .ok (.iconst 3, 1) := by decide +kernel
theorem dD_isSheet_3 : decode mD_isSheet.2.1 3 = .ok (.invokestatic 65, 3) := by decide +kernel
theorem dD_isSheet_6 : decode mD_isSheet.2.1 6 = .ok (.ireturn, 1) := by decide +kernel
theorem dD_voice_0 : decode mD_voice.2.1 0 = .ok (.aload_n 0, 1) := by decide +kernel
theorem dD_voice_1 : decode mD_voice.2.1 1 = .ok (.getfield 12, 3) := by decide +kernel
theorem dD_voice_4 : decode mD_voice.2.1 4 = .ok (.getfield 74, 3) := by decide +kernel
theorem dD_voice_7 : decode mD_voice.2.1 7 = .ok (.iload_n 1, 1) := by decide +kernel
theorem dD_voice_8 : decode mD_voice.2.1 8 = .ok (.invokevirtual 88, 3) := by decide +kernel
theorem dD_voice_11 : decode mD_voice.2.1 11 = .ok (.ifCond .eq 12, 3) := by decide +kernel
theorem dD_voice_14 : decode mD_voice.2.1 14 = .ok (.iload_n 2, 1) := by decide +kernel
theorem dD_voice_15 : decode mD_voice.2.1 15 = .ok (.iconst 0, 1) := by decide +kernel
theorem dD_voice_16 : decode mD_voice.2.1 16 = .ok (.iconst 3, 1) := by decide +kernel
theorem dD_voice_17 : decode mD_voice.2.1 17 = .ok (.invokestatic 65, 3) := by decide +kernel
theorem dD_voice_20 : decode mD_voice.2.1 20 = .ok (.ifCond .ne 10, 3) := by decide +kernel
theorem dD_voice_23 : decode mD_voice.2.1 23 = .ok (.aload_n 0, 1) := by decide +kernel
theorem dD_voice_24 : decode mD_voice.2.1 24 = .ok (.ldc 69, 2) := by decide +kernel
theorem dD_voice_26 : decode mD_voice.2.1 26 = .ok (.invokevirtual 70, 3) := by decide +kernel
theorem dD_voice_29 : decode mD_voice.2.1 29 = .ok (.ireturn, 1) := by decide +kernel
theorem dD_voice_30 : decode mD_voice.2.1 30 = .ok (.aload_n 0, 1) := by decide +kernel
theorem dD_voice_31 : decode mD_voice.2.1 31 = .ok (.getfield 36, 3) := by decide +kernel
theorem dD_voice_34 : decode mD_voice.2.1 34 = .ok (.aload_n 0, 1) := by decide +kernel
theorem dD_voice_35 : decode mD_voice.2.1 35 = .ok (.getfield 12, 3) := by decide +kernel
theorem dD_voice_38 : decode mD_voice.2.1 38 = .ok (.getfield 74, 3) := by decide +kernel
theorem dD_voice_41 : decode mD_voice.2.1 41 = .ok (.getfield 91, 3) := by decide +kernel
theorem dD_voice_44 : decode mD_voice.2.1 44 = .ok (.iload_n 1, 1) := by decide +kernel
theorem dD_voice_45 : decode mD_voice.2.1 45 = .ok (.iaload, 1) := by decide +kernel
theorem dD_voice_46 : decode mD_voice.2.1 46 = .ok (.iload_n 1, 1) := by decide +kernel
theorem dD_voice_47 : decode mD_voice.2.1 47 = .ok (.aload_n 0, 1) := by decide +kernel
theorem dD_voice_48 : decode mD_voice.2.1 48 = .ok (.getfield 12, 3) := by decide +kernel
theorem dD_voice_51 : decode mD_voice.2.1 51 = .ok (.getfield 74, 3) := by decide +kernel
theorem dD_voice_54 : decode mD_voice.2.1 54 = .ok (.getfield 305, 3) := by decide +kernel
theorem dD_voice_57 : decode mD_voice.2.1 57 = .ok (.iload_n 1, 1) := by decide +kernel
theorem dD_voice_58 : decode mD_voice.2.1 58 = .ok (.iaload, 1) := by decide +kernel
theorem dD_voice_59 : decode mD_voice.2.1 59 = .ok (.iload_n 2, 1) := by decide +kernel
theorem dD_voice_60 : decode mD_voice.2.1 60 = .ok (.iload_n 3, 1) := by decide +kernel
theorem dD_voice_61 : decode mD_voice.2.1 61 = .ok (.invokevirtual 308, 3) := by decide +kernel
theorem dD_voice_64 : decode mD_voice.2.1 64 = .ok (.ireturn, 1) := by decide +kernel
theorem dD_trace_0 : decode mD_trace.2.1 0 = .ok (.iload_n 1, 1) := by decide +kernel
theorem dD_trace_1 : decode mD_trace.2.1 1 = .ok (.iconst 0, 1) := by decide +kernel
theorem dD_trace_2 : decode mD_trace.2.1 2 = .ok (.aload_n 0, 1) := by decide +kernel
theorem dD_trace_3 : decode mD_trace.2.1 3 = .ok (.getfield 36, 3) := by decide +kernel
theorem dD_trace_6 : decode mD_trace.2.1 6 = .ok (.getfield 312, 3) := by decide +kernel
theorem dD_trace_9 : decode mD_trace.2.1 9 = .ok (.iconst 1, 1) := by decide +kernel
theorem dD_trace_10 : decode mD_trace.2.1 10 = .ok (.isub, 1) := by decide +kernel
theorem dD_trace_11 : decode mD_trace.2.1 11 = .ok (.invokestatic 65, 3) := by decide +kernel
theorem dD_trace_14 : decode mD_trace.2.1 14 = .ok (.ifCond .eq 15, 3) := by decide +kernel
theorem dD_trace_17 : decode mD_trace.2.1 17 = .ok (.aload_n 0, 1) := by decide +kernel
theorem dD_trace_18 : decode mD_trace.2.1 18 = .ok (.getfield 36, 3) := by decide +kernel
theorem dD_trace_21 : decode mD_trace.2.1 21 = .ok (.getfield 313, 3) := by decide +kernel
theorem dD_trace_24 : decode mD_trace.2.1 24 = .ok (.iload_n 1, 1) := by decide +kernel
theorem dD_trace_25 : decode mD_trace.2.1 25 = .ok (.iaload, 1) := by decide +kernel
theorem dD_trace_26 : decode mD_trace.2.1 26 = .ok (.goto 9, 3) := by decide +kernel
theorem dD_trace_29 : decode mD_trace.2.1 29 = .ok (.aload_n 0, 1) := by decide +kernel
theorem dD_trace_30 : decode mD_trace.2.1 30 = .ok (.ldc 125, 2) := by decide +kernel
theorem dD_trace_32 : decode mD_trace.2.1 32 = .ok (.invokevirtual 70, 3) := by decide +kernel
theorem dD_trace_35 : decode mD_trace.2.1 35 = .ok (.ireturn, 1) := by decide +kernel
theorem dD_sheet_0 : decode mD_sheet.2.1 0 = .ok (.iload_n 1, 1) := by decide +kernel
theorem dD_sheet_1 : decode mD_sheet.2.1 1 = .ok (.invokestatic 284, 3) := by decide +kernel
theorem dD_sheet_4 : decode mD_sheet.2.1 4 = .ok (.ifCond .eq 25, 3) := by decide +kernel
theorem dD_sheet_7 : decode mD_sheet.2.1 7 = .ok (.iload_n 2, 1) := by decide +kernel
theorem dD_sheet_8 : decode mD_sheet.2.1 8 = .ok (.ifCond .eq 28, 3) := by decide +kernel
theorem dD_sheet_11 : decode mD_sheet.2.1 11 = .ok (.iload_n 2, 1) := by decide +kernel
theorem dD_sheet_12 : decode mD_sheet.2.1 12 = .ok (.bipush 8, 2) := by decide +kernel
theorem dD_sheet_14 : decode mD_sheet.2.1 14 = .ok (.if_icmp .eq 22, 3) := by decide +kernel
theorem dD_sheet_17 : decode mD_sheet.2.1 17 = .ok (.iload_n 2, 1) := by decide +kernel
theorem dD_sheet_18 : decode mD_sheet.2.1 18 = .ok (.bipush 16, 2) := by decide +kernel
theorem dD_sheet_20 : decode mD_sheet.2.1 20 = .ok (.if_icmp .eq 16, 3) := by decide +kernel
theorem dD_sheet_23 : decode mD_sheet.2.1 23 = .ok (.iload_n 2, 1) := by decide +kernel
theorem dD_sheet_24 : decode mD_sheet.2.1 24 = .ok (.bipush 32, 2) := by decide +kernel
theorem dD_sheet_26 : decode mD_sheet.2.1 26 = .ok (.if_icmp .eq 10, 3) := by decide +kernel
theorem dD_sheet_29 : decode mD_sheet.2.1 29 = .ok (.aload_n 0, 1) := by decide +kernel
theorem dD_sheet_30 : decode mD_sheet.2.1 30 = .ok (.ldc 69, 2) := by decide +kernel
theorem dD_sheet_32 : decode mD_sheet.2.1 32 = .ok (.invokevirtual 70, 3) := by decide +kernel
theorem dD_sheet_35 : decode mD_sheet.2.1 35 = .ok (.ireturn, 1) := by decide +kernel
theorem dD_sheet_36 : decode mD_sheet.2.1 36 = .ok (.iload_n 2, 1) := by decide +kernel
theorem dD_sheet_37 : decode mD_sheet.2.1 37 = .ok (.ifCond .eq 14, 3) := by decide +kernel
theorem dD_sheet_40 : decode mD_sheet.2.1 40 = .ok (.iload_n 3, 1) := by decide +kernel
theorem dD_sheet_41 : decode mD_sheet.2.1 41 = .ok (.ifCond .ge 10, 3) := by decide +kernel
theorem dD_sheet_44 : decode mD_sheet.2.1 44 = .ok (.aload_n 0, 1) := by decide +kernel
theorem dD_sheet_45 : decode mD_sheet.2.1 45 = .ok (.ldc 111, 2) := by decide +kernel
theorem dD_sheet_47 : decode mD_sheet.2.1 47 = .ok (.invokevirtual 70, 3) := by decide +kernel
theorem dD_sheet_50 : decode mD_sheet.2.1 50 = .ok (.ireturn, 1) := by decide +kernel
theorem dD_sheet_51 : decode mD_sheet.2.1 51 = .ok (.iload_n 2, 1) := by decide +kernel
theorem dD_sheet_52 : decode mD_sheet.2.1 52 = .ok (.ifCond .eq 16, 3) := by decide +kernel
theorem dD_sheet_55 : decode mD_sheet.2.1 55 = .ok (.iload_n 3, 1) := by decide +kernel
theorem dD_sheet_56 : decode mD_sheet.2.1 56 = .ok (.bipush 24, 2) := by decide +kernel
theorem dD_sheet_58 : decode mD_sheet.2.1 58 = .ok (.if_icmp .le 10, 3) := by decide +kernel
theorem dD_sheet_61 : decode mD_sheet.2.1 61 = .ok (.aload_n 0, 1) := by decide +kernel
theorem dD_sheet_62 : decode mD_sheet.2.1 62 = .ok (.ldc 69, 2) := by decide +kernel
theorem dD_sheet_64 : decode mD_sheet.2.1 64 = .ok (.invokevirtual 70, 3) := by decide +kernel
theorem dD_sheet_67 : decode mD_sheet.2.1 67 = .ok (.ireturn, 1) := by decide +kernel
theorem dD_sheet_68 : decode mD_sheet.2.1 68 = .ok (.aload_n 0, 1) := by decide +kernel
theorem dD_sheet_69 : decode mD_sheet.2.1 69 = .ok (.getfield 42, 3) := by decide +kernel
theorem dD_sheet_72 : decode mD_sheet.2.1 72 = .ok (.iload_n 1, 1) := by decide +kernel
theorem dD_sheet_73 : decode mD_sheet.2.1 73 = .ok (.aaload, 1) := by decide +kernel
theorem dD_sheet_74 : decode mD_sheet.2.1 74 = .ok (.iload_n 2, 1) := by decide +kernel
theorem dD_sheet_75 : decode mD_sheet.2.1 75 = .ok (.iload_n 2, 1) := by decide +kernel
theorem dD_sheet_76 : decode mD_sheet.2.1 76 = .ok (.ifCond .ne 7, 3) := by decide +kernel
theorem dD_sheet_79 : decode mD_sheet.2.1 79 = .ok (.iconst 0, 1) := by decide +kernel
theorem dD_sheet_80 : decode mD_sheet.2.1 80 = .ok (.goto 4, 3) := by decide +kernel
theorem dD_sheet_83 : decode mD_sheet.2.1 83 = .ok (.iload_n 3, 1) := by decide +kernel
theorem dD_sheet_84 : decode mD_sheet.2.1 84 = .ok (.invokevirtual 316, 3) := by decide +kernel
theorem dD_sheet_87 : decode mD_sheet.2.1 87 = .ok (.iconst 1, 1) := by decide +kernel
theorem dD_sheet_88 : decode mD_sheet.2.1 88 = .ok (.ireturn, 1) := by decide +kernel
theorem dD_put_0 : decode mD_put.2.1 0 = .ok (.iload_n 1, 1) := by decide +kernel
theorem dD_put_1 : decode mD_put.2.1 1 = .ok (.invokestatic 284, 3) := by decide +kernel
theorem dD_put_4 : decode mD_put.2.1 4 = .ok (.ifCond .ne 10, 3) := by decide +kernel
theorem dD_put_7 : decode mD_put.2.1 7 = .ok (.aload_n 0, 1) := by decide +kernel
theorem dD_put_8 : decode mD_put.2.1 8 = .ok (.ldc 69, 2) := by decide +kernel
theorem dD_put_10 : decode mD_put.2.1 10 = .ok (.invokevirtual 70, 3) := by decide +kernel
theorem dD_put_13 : decode mD_put.2.1 13 = .ok (.ireturn, 1) := by decide +kernel
theorem dD_put_14 : decode mD_put.2.1 14 = .ok (.aload_n 0, 1) := by decide +kernel
theorem dD_put_15 : decode mD_put.2.1 15 = .ok (.getfield 42, 3) := by decide +kernel
theorem dD_put_18 : decode mD_put.2.1 18 = .ok (.iload_n 1, 1) := by decide +kernel
theorem dD_put_19 : decode mD_put.2.1 19 = .ok (.aaload, 1) := by decide +kernel
theorem dD_put_20 : decode mD_put.2.1 20 = .ok (.astore 4, 2) := by decide +kernel
theorem dD_put_22 : decode mD_put.2.1 22 = .ok (.aload 4, 2) := by decide +kernel
theorem dD_put_24 : decode mD_put.2.1 24 = .ok (.getfield 287, 3) := by decide +kernel
theorem dD_put_27 : decode mD_put.2.1 27 = .ok (.ifCond .ne 10, 3) := by decide +kernel
theorem dD_put_30 : decode mD_put.2.1 30 = .ok (.aload_n 0, 1) := by decide +kernel
theorem dD_put_31 : decode mD_put.2.1 31 = .ok (.ldc 125, 2) := by decide +kernel
theorem dD_put_33 : decode mD_put.2.1 33 = .ok (.invokevirtual 70, 3) := by decide +kernel
theorem dD_put_36 : decode mD_put.2.1 36 = .ok (.ireturn, 1) := by decide +kernel
theorem dD_put_37 : decode mD_put.2.1 37 = .ok (.iload_n 2, 1) := by decide +kernel
theorem dD_put_38 : decode mD_put.2.1 38 = .ok (.iconst 0, 1) := by decide +kernel
theorem dD_put_39 : decode mD_put.2.1 39 = .ok (.aload 4, 2) := by decide +kernel
theorem dD_put_41 : decode mD_put.2.1 41 = .ok (.getfield 320, 3) := by decide +kernel
theorem dD_put_44 : decode mD_put.2.1 44 = .ok (.iconst 1, 1) := by decide +kernel
theorem dD_put_45 : decode mD_put.2.1 45 = .ok (.isub, 1) := by decide +kernel
theorem dD_put_46 : decode mD_put.2.1 46 = .ok (.invokestatic 65, 3) := by decide +kernel
theorem dD_put_49 : decode mD_put.2.1 49 = .ok (.ifCond .ne 10, 3) := by decide +kernel
theorem dD_put_52 : decode mD_put.2.1 52 = .ok (.aload_n 0, 1) := by decide +kernel
theorem dD_put_53 : decode mD_put.2.1 53 = .ok (.ldc 69, 2) := by decide +kernel
theorem dD_put_55 : decode mD_put.2.1 55 = .ok (.invokevirtual 70, 3) := by decide +kernel
theorem dD_put_58 : decode mD_put.2.1 58 = .ok (.ireturn, 1) := by decide +kernel
theorem dD_put_59 : decode mD_put.2.1 59 = .ok (.aload 4, 2) := by decide +kernel
theorem dD_put_61 : decode mD_put.2.1 61 = .ok (.getfield 294, 3) := by decide +kernel
theorem dD_put_64 : decode mD_put.2.1 64 = .ok (.iload_n 2, 1) := by decide +kernel
theorem dD_put_65 : decode mD_put.2.1 65 = .ok (.aload 4, 2) := by decide +kernel
theorem dD_put_67 : decode mD_put.2.1 67 = .ok (.iload_n 3, 1) := by decide +kernel
theorem dD_put_68 : decode mD_put.2.1 68 = .ok (.invokevirtual 323, 3) := by decide +kernel
theorem dD_put_71 : decode mD_put.2.1 71 = .ok (.iastore, 1) := by decide +kernel
theorem dD_put_72 : decode mD_put.2.1 72 = .ok (.iconst 1, 1) := by decide +kernel
theorem dD_put_73 : decode mD_put.2.1 73 = .ok (.ireturn, 1) := by decide +kernel
theorem dD_move_0 : decode mD_move.2.1 0 = .ok (.iload_n 1, 1) := by decide +kernel
theorem dD_move_1 : decode mD_move.2.1 1 = .ok (.invokestatic 284, 3) := by decide +kernel
theorem dD_move_4 : decode mD_move.2.1 4 = .ok (.ifCond .eq 10, 3) := by decide +kernel
theorem dD_move_7 : decode mD_move.2.1 7 = .ok (.iload_n 3, 1) := by decide +kernel
theorem dD_move_8 : decode mD_move.2.1 8 = .ok (.invokestatic 284, 3) := by decide +kernel
theorem dD_move_11 : decode mD_move.2.1 11 = .ok (.ifCond .ne 10, 3) := by decide +kernel
theorem dD_move_14 : decode mD_move.2.1 14 = .ok (.aload_n 0, 1) := by decide +kernel
theorem dD_move_15 : decode mD_move.2.1 15 = .ok (.ldc 69, 2) := by decide +kernel
theorem dD_move_17 : decode mD_move.2.1 17 = .ok (.invokevirtual 70, 3) := by decide +kernel
theorem dD_move_20 : decode mD_move.2.1 20 = .ok (.ireturn, 1) := by decide +kernel
theorem dD_move_21 : decode mD_move.2.1 21 = .ok (.aload_n 0, 1) := by decide +kernel
theorem dD_move_22 : decode mD_move.2.1 22 = .ok (.getfield 42, 3) := by decide +kernel
theorem dD_move_25 : decode mD_move.2.1 25 = .ok (.iload_n 1, 1) := by decide +kernel
theorem dD_move_26 : decode mD_move.2.1 26 = .ok (.aaload, 1) := by decide +kernel
theorem dD_move_27 : decode mD_move.2.1 27 = .ok (.astore 6, 2) := by decide +kernel
theorem dD_move_29 : decode mD_move.2.1 29 = .ok (.aload_n 0, 1) := by decide +kernel
theorem dD_move_30 : decode mD_move.2.1 30 = .ok (.getfield 42, 3) := by decide +kernel
theorem dD_move_33 : decode mD_move.2.1 33 = .ok (.iload_n 3, 1) := by decide +kernel
theorem dD_move_34 : decode mD_move.2.1 34 = .ok (.aaload, 1) := by decide +kernel
theorem dD_move_35 : decode mD_move.2.1 35 = .ok (.astore 7, 2) := by decide +kernel
theorem dD_move_37 : decode mD_move.2.1 37 = .ok (.aload 6, 2) := by decide +kernel
theorem dD_move_39 : decode mD_move.2.1 39 = .ok (.getfield 287, 3) := by decide +kernel
theorem dD_move_42 : decode mD_move.2.1 42 = .ok (.ifCond .eq 11, 3) := by decide +kernel
theorem dD_move_45 : decode mD_move.2.1 45 = .ok (.aload 7, 2) := by decide +kernel
theorem dD_move_47 : decode mD_move.2.1 47 = .ok (.getfield 287, 3) := by decide +kernel
theorem dD_move_50 : decode mD_move.2.1 50 = .ok (.ifCond .ne 10, 3) := by decide +kernel
theorem dD_move_53 : decode mD_move.2.1 53 = .ok (.aload_n 0, 1) := by decide +kernel
theorem dD_move_54 : decode mD_move.2.1 54 = .ok (.ldc 125, 2) := by decide +kernel
theorem dD_move_56 : decode mD_move.2.1 56 = .ok (.invokevirtual 70, 3) := by decide +kernel
theorem dD_move_59 : decode mD_move.2.1 59 = .ok (.ireturn, 1) := by decide +kernel
theorem dD_move_60 : decode mD_move.2.1 60 = .ok (.aload 6, 2) := by decide +kernel
theorem dD_move_62 : decode mD_move.2.1 62 = .ok (.getfield 287, 3) := by decide +kernel
theorem dD_move_65 : decode mD_move.2.1 65 = .ok (.aload 7, 2) := by decide +kernel
theorem dD_move_67 : decode mD_move.2.1 67 = .ok (.getfield 287, 3) := by decide +kernel
theorem dD_move_70 : decode mD_move.2.1 70 = .ok (.if_icmp .eq 10, 3) := by decide +kernel
theorem dD_move_73 : decode mD_move.2.1 73 = .ok (.aload_n 0, 1) := by decide +kernel
theorem dD_move_74 : decode mD_move.2.1 74 = .ok (.ldc 98, 2) := by decide +kernel
theorem dD_move_76 : decode mD_move.2.1 76 = .ok (.invokevirtual 70, 3) := by decide +kernel
theorem dD_move_79 : decode mD_move.2.1 79 = .ok (.ireturn, 1) := by decide +kernel
theorem dD_move_80 : decode mD_move.2.1 80 = .ok (.iload 5, 2) := by decide +kernel
theorem dD_move_82 : decode mD_move.2.1 82 = .ok (.ifCond .lt 36, 3) := by decide +kernel
theorem dD_move_85 : decode mD_move.2.1 85 = .ok (.iload_n 2, 1) := by decide +kernel
theorem dD_move_86 : decode mD_move.2.1 86 = .ok (.iconst 0, 1) := by decide +kernel
theorem dD_move_87 : decode mD_move.2.1 87 = .ok (.aload 6, 2) := by decide +kernel
theorem dD_move_89 : decode mD_move.2.1 89 = .ok (.getfield 320, 3) := by decide +kernel
theorem dD_move_92 : decode mD_move.2.1 92 = .ok (.iload 5, 2) := by decide +kernel
theorem dD_move_94 : decode mD_move.2.1 94 = .ok (.isub, 1) := by decide +kernel
theorem dD_move_95 : decode mD_move.2.1 95 = .ok (.invokestatic 65, 3) := by decide +kernel
theorem dD_move_98 : decode mD_move.2.1 98 = .ok (.ifCond .eq 20, 3) := by decide +kernel
theorem dD_move_101 : decode mD_move.2.1 101 = .ok (.iload 4, 2) := by decide +kernel
theorem dD_move_103 : decode mD_move.2.1 103 = .ok (.iconst 0, 1) := by decide +kernel
theorem dD_move_104 : decode mD_move.2.1 104 = .ok (.aload 7, 2) := by decide +kernel
theorem dD_move_106 : decode mD_move.2.1 106 = .ok (.getfield 320, 3) := by decide +kernel
theorem dD_move_109 : decode mD_move.2.1 109 = .ok (.iload 5, 2) := by decide +kernel
theorem dD_move_111 : decode mD_move.2.1 111 = .ok (.isub, 1) := by decide +kernel
theorem dD_move_112 : decode mD_move.2.1 112 = .ok (.invokestatic 65, 3) := by decide +kernel
theorem dD_move_115 : decode mD_move.2.1 115 = .ok (.ifCond .ne 10, 3) := by decide +kernel
theorem dD_move_118 : decode mD_move.2.1 118 = .ok (.aload_n 0, 1) := by decide +kernel
theorem dD_move_119 : decode mD_move.2.1 119 = .ok (.ldc 69, 2) := by decide +kernel
theorem dD_move_121 : decode mD_move.2.1 121 = .ok (.invokevirtual 70, 3) := by decide +kernel
theorem dD_move_124 : decode mD_move.2.1 124 = .ok (.ireturn, 1) := by decide +kernel
theorem dD_move_125 : decode mD_move.2.1 125 = .ok (.aload 6, 2) := by decide +kernel
theorem dD_move_127 : decode mD_move.2.1 127 = .ok (.getfield 294, 3) := by decide +kernel
theorem dD_move_130 : decode mD_move.2.1 130 = .ok (.iload_n 2, 1) := by decide +kernel
theorem dD_move_131 : decode mD_move.2.1 131 = .ok (.aload 7, 2) := by decide +kernel
theorem dD_move_133 : decode mD_move.2.1 133 = .ok (.getfield 294, 3) := by decide +kernel
theorem dD_move_136 : decode mD_move.2.1 136 = .ok (.iload 4, 2) := by decide +kernel
theorem dD_move_138 : decode mD_move.2.1 138 = .ok (.iload 5, 2) := by decide +kernel
theorem dD_move_140 : decode mD_move.2.1 140 = .ok (.invokestatic 326, 3) := by decide +kernel
theorem dD_move_143 : decode mD_move.2.1 143 = .ok (.iload 5, 2) := by decide +kernel
theorem dD_move_145 : decode mD_move.2.1 145 = .ok (.ireturn, 1) := by decide +kernel
theorem dD_image_0 : decode mD_image.2.1 0 = .ok (.aload_n 0, 1) := by decide +kernel
theorem dD_image_1 : decode mD_image.2.1 1 = .ok (.getfield 16, 3) := by decide +kernel
theorem dD_image_4 : decode mD_image.2.1 4 = .ok (.aload_n 0, 1) := by decide +kernel
theorem dD_image_5 : decode mD_image.2.1 5 = .ok (.getfield 12, 3) := by decide +kernel
theorem dD_image_8 : decode mD_image.2.1 8 = .ok (.invokevirtual 332, 3) := by decide +kernel
theorem dD_image_11 : decode mD_image.2.1 11 = .ok (.aload_n 0, 1) := by decide +kernel
theorem dD_image_12 : decode mD_image.2.1 12 = .ok (.dup, 1) := by decide +kernel
theorem dD_image_13 : decode mD_image.2.1 13 = .ok (.getfield 56, 3) := by decide +kernel
theorem dD_image_16 : decode mD_image.2.1 16 = .ok (.iconst 1, 1) := by decide +kernel
theorem dD_image_17 : decode mD_image.2.1 17 = .ok (.iadd, 1) := by decide +kernel
theorem dD_image_18 : decode mD_image.2.1 18 = .ok (.putfield 56, 3) := by decide +kernel
theorem dD_image_21 : decode mD_image.2.1 21 = .ok (.aload_n 0, 1) := by decide +kernel
theorem dD_image_22 : decode mD_image.2.1 22 = .ok (.getfield 56, 3) := by decide +kernel
theorem dD_image_25 : decode mD_image.2.1 25 = .ok (.ireturn, 1) := by decide +kernel
theorem dD_restore_0 : decode mD_restore.2.1 0 = .ok (.aload_n 0, 1) := by decide +kernel
theorem dD_restore_1 : decode mD_restore.2.1 1 = .ok (.getfield 56, 3) := by decide +kernel
theorem dD_restore_4 : decode mD_restore.2.1 4 = .ok (.ifCond .ne 10, 3) := by decide +kernel
theorem dD_restore_7 : decode mD_restore.2.1 7 = .ok (.aload_n 0, 1) := by decide +kernel
theorem dD_restore_8 : decode mD_restore.2.1 8 = .ok (.ldc 125, 2) := by decide +kernel
theorem dD_restore_10 : decode mD_restore.2.1 10 = .ok (.invokevirtual 70, 3) := by decide +kernel
theorem dD_restore_13 : decode mD_restore.2.1 13 = .ok (.ireturn, 1) := by decide +kernel
theorem dD_restore_14 : decode mD_restore.2.1 14 = .ok (.aload_n 0, 1) := by decide +kernel
theorem dD_restore_15 : decode mD_restore.2.1 15 = .ok (.getfield 12, 3) := by decide +kernel
theorem dD_restore_18 : decode mD_restore.2.1 18 = .ok (.aload_n 0, 1) := by decide +kernel
theorem dD_restore_19 : decode mD_restore.2.1 19 = .ok (.getfield 16, 3) := by decide +kernel
theorem dD_restore_22 : decode mD_restore.2.1 22 = .ok (.invokevirtual 332, 3) := by decide +kernel
theorem dD_restore_25 : decode mD_restore.2.1 25 = .ok (.aload_n 0, 1) := by decide +kernel
theorem dD_restore_26 : decode mD_restore.2.1 26 = .ok (.getfield 12, 3) := by decide +kernel
theorem dD_restore_29 : decode mD_restore.2.1 29 = .ok (.getfield 142, 3) := by decide +kernel
theorem dD_restore_32 : decode mD_restore.2.1 32 = .ok (.ireturn, 1) := by decide +kernel
theorem dD_told_0 : decode mD_told.2.1 0 = .ok (.iload_n 1, 1) := by decide +kernel
theorem dD_told_1 : decode mD_told.2.1 1 = .ok (.tableswitch 156 0 9 #[55, 66, 77, 88, 96, 107, 115, 126, 137, 148], 55) := by decide +kernel
theorem dD_told_56 : decode mD_told.2.1 56 = .ok (.aload_n 0, 1) := by decide +kernel
theorem dD_told_57 : decode mD_told.2.1 57 = .ok (.getfield 12, 3) := by decide +kernel
theorem dD_told_60 : decode mD_told.2.1 60 = .ok (.getfield 74, 3) := by decide +kernel
theorem dD_told_63 : decode mD_told.2.1 63 = .ok (.getfield 78, 3) := by decide +kernel
theorem dD_told_66 : decode mD_told.2.1 66 = .ok (.ireturn, 1) := by decide +kernel
theorem dD_told_67 : decode mD_told.2.1 67 = .ok (.aload_n 0, 1) := by decide +kernel
theorem dD_told_68 : decode mD_told.2.1 68 = .ok (.getfield 12, 3) := by decide +kernel
theorem dD_told_71 : decode mD_told.2.1 71 = .ok (.getfield 74, 3) := by decide +kernel
theorem dD_told_74 : decode mD_told.2.1 74 = .ok (.getfield 118, 3) := by decide +kernel
theorem dD_told_77 : decode mD_told.2.1 77 = .ok (.ireturn, 1) := by decide +kernel
theorem dD_told_78 : decode mD_told.2.1 78 = .ok (.aload_n 0, 1) := by decide +kernel
theorem dD_told_79 : decode mD_told.2.1 79 = .ok (.getfield 12, 3) := by decide +kernel
theorem dD_told_82 : decode mD_told.2.1 82 = .ok (.getfield 148, 3) := by decide +kernel
theorem dD_told_85 : decode mD_told.2.1 85 = .ok (.getfield 152, 3) := by decide +kernel
theorem dD_told_88 : decode mD_told.2.1 88 = .ok (.ireturn, 1) := by decide +kernel
theorem dD_told_89 : decode mD_told.2.1 89 = .ok (.aload_n 0, 1) := by decide +kernel
theorem dD_told_90 : decode mD_told.2.1 90 = .ok (.invokevirtual 272, 3) := by decide +kernel
theorem dD_told_93 : decode mD_told.2.1 93 = .ok (.invokestatic 336, 3) := by decide +kernel
theorem dD_told_96 : decode mD_told.2.1 96 = .ok (.ireturn, 1) := by decide +kernel
theorem dD_told_97 : decode mD_told.2.1 97 = .ok (.aload_n 0, 1) := by decide +kernel
theorem dD_told_98 : decode mD_told.2.1 98 = .ok (.getfield 12, 3) := by decide +kernel
theorem dD_told_101 : decode mD_told.2.1 101 = .ok (.getfield 227, 3) := by decide +kernel
theorem dD_told_104 : decode mD_told.2.1 104 = .ok (.getfield 243, 3) := by decide +kernel
theorem dD_told_107 : decode mD_told.2.1 107 = .ok (.ireturn, 1) := by decide +kernel
theorem dD_told_108 : decode mD_told.2.1 108 = .ok (.aload_n 0, 1) := by decide +kernel
theorem dD_told_109 : decode mD_told.2.1 109 = .ok (.getfield 12, 3) := by decide +kernel
theorem dD_told_112 : decode mD_told.2.1 112 = .ok (.getfield 142, 3) := by decide +kernel
theorem dD_told_115 : decode mD_told.2.1 115 = .ok (.ireturn, 1) := by decide +kernel
theorem dD_told_116 : decode mD_told.2.1 116 = .ok (.aload_n 0, 1) := by decide +kernel
theorem dD_told_117 : decode mD_told.2.1 117 = .ok (.getfield 12, 3) := by decide +kernel
theorem dD_told_120 : decode mD_told.2.1 120 = .ok (.getfield 129, 3) := by decide +kernel
theorem dD_told_123 : decode mD_told.2.1 123 = .ok (.getfield 341, 3) := by decide +kernel
theorem dD_told_126 : decode mD_told.2.1 126 = .ok (.ireturn, 1) := by decide +kernel
theorem dD_told_127 : decode mD_told.2.1 127 = .ok (.aload_n 0, 1) := by decide +kernel
theorem dD_told_128 : decode mD_told.2.1 128 = .ok (.getfield 12, 3) := by decide +kernel
theorem dD_told_131 : decode mD_told.2.1 131 = .ok (.getfield 227, 3) := by decide +kernel
theorem dD_told_134 : decode mD_told.2.1 134 = .ok (.getfield 231, 3) := by decide +kernel
theorem dD_told_137 : decode mD_told.2.1 137 = .ok (.ireturn, 1) := by decide +kernel
theorem dD_told_138 : decode mD_told.2.1 138 = .ok (.aload_n 0, 1) := by decide +kernel
theorem dD_told_139 : decode mD_told.2.1 139 = .ok (.getfield 12, 3) := by decide +kernel
theorem dD_told_142 : decode mD_told.2.1 142 = .ok (.getfield 102, 3) := by decide +kernel
theorem dD_told_145 : decode mD_told.2.1 145 = .ok (.getfield 278, 3) := by decide +kernel
theorem dD_told_148 : decode mD_told.2.1 148 = .ok (.ireturn, 1) := by decide +kernel
theorem dD_told_149 : decode mD_told.2.1 149 = .ok (.aload_n 0, 1) := by decide +kernel
theorem dD_told_150 : decode mD_told.2.1 150 = .ok (.getfield 36, 3) := by decide +kernel
theorem dD_told_153 : decode mD_told.2.1 153 = .ok (.getfield 312, 3) := by decide +kernel
theorem dD_told_156 : decode mD_told.2.1 156 = .ok (.ireturn, 1) := by decide +kernel
theorem dD_told_157 : decode mD_told.2.1 157 = .ok (.aload_n 0, 1) := by decide +kernel
theorem dD_told_158 : decode mD_told.2.1 158 = .ok (.ldc 69, 2) := by decide +kernel
theorem dD_told_160 : decode mD_told.2.1 160 = .ok (.invokevirtual 70, 3) := by decide +kernel
theorem dD_told_163 : decode mD_told.2.1 163 = .ok (.ireturn, 1) := by decide +kernel
theorem dD_found_0 : decode mD_found.2.1 0 = .ok (.iload_n 1, 1) := by decide +kernel
theorem dD_found_1 : decode mD_found.2.1 1 = .ok (.iconst 1, 1) := by decide +kernel
theorem dD_found_2 : decode mD_found.2.1 2 = .ok (.iconst 5, 1) := by decide +kernel
theorem dD_found_3 : decode mD_found.2.1 3 = .ok (.invokestatic 65, 3) := by decide +kernel
theorem dD_found_6 : decode mD_found.2.1 6 = .ok (.ifCond .eq 12, 3) := by decide +kernel
theorem dD_found_9 : decode mD_found.2.1 9 = .ok (.aload_n 0, 1) := by decide +kernel
theorem dD_found_10 : decode mD_found.2.1 10 = .ok (.getfield 46, 3) := by decide +kernel
theorem dD_found_13 : decode mD_found.2.1 13 = .ok (.iload_n 1, 1) := by decide +kernel
theorem dD_found_14 : decode mD_found.2.1 14 = .ok (.iaload, 1) := by decide +kernel
theorem dD_found_15 : decode mD_found.2.1 15 = .ok (.goto 9, 3) := by decide +kernel
theorem dD_found_18 : decode mD_found.2.1 18 = .ok (.aload_n 0, 1) := by decide +kernel
theorem dD_found_19 : decode mD_found.2.1 19 = .ok (.ldc 69, 2) := by decide +kernel
theorem dD_found_21 : decode mD_found.2.1 21 = .ok (.invokevirtual 70, 3) := by decide +kernel
theorem dD_found_24 : decode mD_found.2.1 24 = .ok (.ireturn, 1) := by decide +kernel
