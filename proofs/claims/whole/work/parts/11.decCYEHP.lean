theorem dC_init_0 : decode mC_init.2.1 0 = .ok (.aload_n 0, 1) := by decide +kernel
theorem dC_init_1 : decode mC_init.2.1 1 = .ok (.invokespecial 3, 3) := by decide +kernel
theorem dC_init_4 : decode mC_init.2.1 4 = .ok (.aload_n 0, 1) := by decide +kernel
theorem dC_init_5 : decode mC_init.2.1 5 = .ok (.bipush 60, 2) := by decide +kernel
theorem dC_init_7 : decode mC_init.2.1 7 = .ok (.newarray .byte, 2) := by decide +kernel
theorem dC_init_9 : decode mC_init.2.1 9 = .ok (.putfield 9, 3) := by decide +kernel
theorem dC_init_12 : decode mC_init.2.1 12 = .ok (.aload_n 0, 1) := by decide +kernel
theorem dC_init_13 : decode mC_init.2.1 13 = .ok (.sipush 600, 3) := by decide +kernel
theorem dC_init_16 : decode mC_init.2.1 16 = .ok (.newarray .byte, 2) := by decide +kernel
theorem dC_init_18 : decode mC_init.2.1 18 = .ok (.putfield 15, 3) := by decide +kernel
theorem dC_init_21 : decode mC_init.2.1 21 = .ok (.aload_n 0, 1) := by decide +kernel
theorem dC_init_22 : decode mC_init.2.1 22 = .ok (.bipush 10, 2) := by decide +kernel
theorem dC_init_24 : decode mC_init.2.1 24 = .ok (.newarray .int, 2) := by decide +kernel
theorem dC_init_26 : decode mC_init.2.1 26 = .ok (.putfield 18, 3) := by decide +kernel
theorem dC_init_29 : decode mC_init.2.1 29 = .ok (.aload_n 0, 1) := by decide +kernel
theorem dC_init_30 : decode mC_init.2.1 30 = .ok (.bipush 10, 2) := by decide +kernel
theorem dC_init_32 : decode mC_init.2.1 32 = .ok (.newarray .int, 2) := by decide +kernel
theorem dC_init_34 : decode mC_init.2.1 34 = .ok (.putfield 22, 3) := by decide +kernel
theorem dC_init_37 : decode mC_init.2.1 37 = .ok (.aload_n 0, 1) := by decide +kernel
theorem dC_init_38 : decode mC_init.2.1 38 = .ok (.bipush 10, 2) := by decide +kernel
theorem dC_init_40 : decode mC_init.2.1 40 = .ok (.newarray .int, 2) := by decide +kernel
theorem dC_init_42 : decode mC_init.2.1 42 = .ok (.putfield 25, 3) := by decide +kernel
theorem dC_init_45 : decode mC_init.2.1 45 = .ok (.aload_n 0, 1) := by decide +kernel
theorem dC_init_46 : decode mC_init.2.1 46 = .ok (.iconst 0, 1) := by decide +kernel
theorem dC_init_47 : decode mC_init.2.1 47 = .ok (.putfield 28, 3) := by decide +kernel
theorem dC_init_50 : decode mC_init.2.1 50 = .ok (.aload_n 0, 1) := by decide +kernel
theorem dC_init_51 : decode mC_init.2.1 51 = .ok (.iconst 0, 1) := by decide +kernel
theorem dC_init_52 : decode mC_init.2.1 52 = .ok (.putfield 32, 3) := by decide +kernel
theorem dC_init_55 : decode mC_init.2.1 55 = .ok (.return_, 1) := by decide +kernel
theorem dC_take_0 : decode mC_take.2.1 0 = .ok (.iconst 0, 1) := by decide +kernel
theorem dC_take_1 : decode mC_take.2.1 1 = .ok (.istore 4, 2) := by decide +kernel
theorem dC_take_3 : decode mC_take.2.1 3 = .ok (.iload 4, 2) := by decide +kernel
theorem dC_take_5 : decode mC_take.2.1 5 = .ok (.iload_n 3, 1) := by decide +kernel
theorem dC_take_6 : decode mC_take.2.1 6 = .ok (.if_icmp .ge 37, 3) := by decide +kernel
theorem dC_take_9 : decode mC_take.2.1 9 = .ok (.aload_n 0, 1) := by decide +kernel
theorem dC_take_10 : decode mC_take.2.1 10 = .ok (.getfield 9, 3) := by decide +kernel
theorem dC_take_13 : decode mC_take.2.1 13 = .ok (.aload_n 0, 1) := by decide +kernel
theorem dC_take_14 : decode mC_take.2.1 14 = .ok (.getfield 28, 3) := by decide +kernel
theorem dC_take_17 : decode mC_take.2.1 17 = .ok (.lload_n 1, 1) := by decide +kernel
theorem dC_take_18 : decode mC_take.2.1 18 = .ok (.bipush 8, 2) := by decide +kernel
theorem dC_take_20 : decode mC_take.2.1 20 = .ok (.iload 4, 2) := by decide +kernel
theorem dC_take_22 : decode mC_take.2.1 22 = .ok (.imul, 1) := by decide +kernel
theorem dC_take_23 : decode mC_take.2.1 23 = .ok (.lushr, 1) := by decide +kernel
theorem dC_take_24 : decode mC_take.2.1 24 = .ok (.l2i, 1) := by decide +kernel
theorem dC_take_25 : decode mC_take.2.1 25 = .ok (.i2b, 1) := by decide +kernel
theorem dC_take_26 : decode mC_take.2.1 26 = .ok (.bastore, 1) := by decide +kernel
theorem dC_take_27 : decode mC_take.2.1 27 = .ok (.aload_n 0, 1) := by decide +kernel
theorem dC_take_28 : decode mC_take.2.1 28 = .ok (.dup, 1) := by decide +kernel
theorem dC_take_29 : decode mC_take.2.1 29 = .ok (.getfield 28, 3) := by decide +kernel
theorem dC_take_32 : decode mC_take.2.1 32 = .ok (.iconst 1, 1) := by decide +kernel
theorem dC_take_33 : decode mC_take.2.1 33 = .ok (.iadd, 1) := by decide +kernel
theorem dC_take_34 : decode mC_take.2.1 34 = .ok (.putfield 28, 3) := by decide +kernel
theorem dC_take_37 : decode mC_take.2.1 37 = .ok (.iinc 4 1, 3) := by decide +kernel
theorem dC_take_40 : decode mC_take.2.1 40 = .ok (.goto (-37), 3) := by decide +kernel
theorem dC_take_43 : decode mC_take.2.1 43 = .ok (.aload_n 0, 1) := by decide +kernel
theorem dC_take_44 : decode mC_take.2.1 44 = .ok (.getfield 28, 3) := by decide +kernel
theorem dC_take_47 : decode mC_take.2.1 47 = .ok (.ireturn, 1) := by decide +kernel
theorem dC_add_0 : decode mC_add.2.1 0 = .ok (.aload_n 0, 1) := by decide +kernel
theorem dC_add_1 : decode mC_add.2.1 1 = .ok (.getfield 9, 3) := by decide +kernel
theorem dC_add_4 : decode mC_add.2.1 4 = .ok (.iconst 0, 1) := by decide +kernel
theorem dC_add_5 : decode mC_add.2.1 5 = .ok (.aload_n 0, 1) := by decide +kernel
theorem dC_add_6 : decode mC_add.2.1 6 = .ok (.getfield 15, 3) := by decide +kernel
theorem dC_add_9 : decode mC_add.2.1 9 = .ok (.aload_n 0, 1) := by decide +kernel
theorem dC_add_10 : decode mC_add.2.1 10 = .ok (.getfield 32, 3) := by decide +kernel
theorem dC_add_13 : decode mC_add.2.1 13 = .ok (.bipush 60, 2) := by decide +kernel
theorem dC_add_15 : decode mC_add.2.1 15 = .ok (.imul, 1) := by decide +kernel
theorem dC_add_16 : decode mC_add.2.1 16 = .ok (.aload_n 0, 1) := by decide +kernel
theorem dC_add_17 : decode mC_add.2.1 17 = .ok (.getfield 28, 3) := by decide +kernel
theorem dC_add_20 : decode mC_add.2.1 20 = .ok (.invokestatic 35, 3) := by decide +kernel
theorem dC_add_23 : decode mC_add.2.1 23 = .ok (.aload_n 0, 1) := by decide +kernel
theorem dC_add_24 : decode mC_add.2.1 24 = .ok (.getfield 18, 3) := by decide +kernel
theorem dC_add_27 : decode mC_add.2.1 27 = .ok (.aload_n 0, 1) := by decide +kernel
theorem dC_add_28 : decode mC_add.2.1 28 = .ok (.getfield 32, 3) := by decide +kernel
theorem dC_add_31 : decode mC_add.2.1 31 = .ok (.aload_n 0, 1) := by decide +kernel
theorem dC_add_32 : decode mC_add.2.1 32 = .ok (.getfield 28, 3) := by decide +kernel
theorem dC_add_35 : decode mC_add.2.1 35 = .ok (.iastore, 1) := by decide +kernel
theorem dC_add_36 : decode mC_add.2.1 36 = .ok (.aload_n 0, 1) := by decide +kernel
theorem dC_add_37 : decode mC_add.2.1 37 = .ok (.getfield 22, 3) := by decide +kernel
theorem dC_add_40 : decode mC_add.2.1 40 = .ok (.aload_n 0, 1) := by decide +kernel
theorem dC_add_41 : decode mC_add.2.1 41 = .ok (.getfield 32, 3) := by decide +kernel
theorem dC_add_44 : decode mC_add.2.1 44 = .ok (.iload_n 1, 1) := by decide +kernel
theorem dC_add_45 : decode mC_add.2.1 45 = .ok (.iastore, 1) := by decide +kernel
theorem dC_add_46 : decode mC_add.2.1 46 = .ok (.aload_n 0, 1) := by decide +kernel
theorem dC_add_47 : decode mC_add.2.1 47 = .ok (.getfield 25, 3) := by decide +kernel
theorem dC_add_50 : decode mC_add.2.1 50 = .ok (.aload_n 0, 1) := by decide +kernel
theorem dC_add_51 : decode mC_add.2.1 51 = .ok (.getfield 32, 3) := by decide +kernel
theorem dC_add_54 : decode mC_add.2.1 54 = .ok (.iload_n 2, 1) := by decide +kernel
theorem dC_add_55 : decode mC_add.2.1 55 = .ok (.iastore, 1) := by decide +kernel
theorem dC_add_56 : decode mC_add.2.1 56 = .ok (.aload_n 0, 1) := by decide +kernel
theorem dC_add_57 : decode mC_add.2.1 57 = .ok (.iconst 0, 1) := by decide +kernel
theorem dC_add_58 : decode mC_add.2.1 58 = .ok (.putfield 28, 3) := by decide +kernel
theorem dC_add_61 : decode mC_add.2.1 61 = .ok (.aload_n 0, 1) := by decide +kernel
theorem dC_add_62 : decode mC_add.2.1 62 = .ok (.dup, 1) := by decide +kernel
theorem dC_add_63 : decode mC_add.2.1 63 = .ok (.getfield 32, 3) := by decide +kernel
theorem dC_add_66 : decode mC_add.2.1 66 = .ok (.iconst 1, 1) := by decide +kernel
theorem dC_add_67 : decode mC_add.2.1 67 = .ok (.iadd, 1) := by decide +kernel
theorem dC_add_68 : decode mC_add.2.1 68 = .ok (.putfield 32, 3) := by decide +kernel
theorem dC_add_71 : decode mC_add.2.1 71 = .ok (.aload_n 0, 1) := by decide +kernel
theorem dC_add_72 : decode mC_add.2.1 72 = .ok (.getfield 32, 3) := by decide +kernel
theorem dC_add_75 : decode mC_add.2.1 75 = .ok (.iconst 1, 1) := by decide +kernel
theorem dC_add_76 : decode mC_add.2.1 76 = .ok (.isub, 1) := by decide +kernel
theorem dC_add_77 : decode mC_add.2.1 77 = .ok (.ireturn, 1) := by decide +kernel
theorem dC_inForce_0 : decode mC_inForce.2.1 0 = .ok (.aload_n 0, 1) := by decide +kernel
theorem dC_inForce_1 : decode mC_inForce.2.1 1 = .ok (.getfield 32, 3) := by decide +kernel
theorem dC_inForce_4 : decode mC_inForce.2.1 4 = .ok (.iconst 1, 1) := by decide +kernel
theorem dC_inForce_5 : decode mC_inForce.2.1 5 = .ok (.isub, 1) := by decide +kernel
theorem dC_inForce_6 : decode mC_inForce.2.1 6 = .ok (.istore_n 3, 1) := by decide +kernel
theorem dC_inForce_7 : decode mC_inForce.2.1 7 = .ok (.iload_n 3, 1) := by decide +kernel
theorem dC_inForce_8 : decode mC_inForce.2.1 8 = .ok (.ifCond .lt 31, 3) := by decide +kernel
theorem dC_inForce_11 : decode mC_inForce.2.1 11 = .ok (.aload_n 0, 1) := by decide +kernel
theorem dC_inForce_12 : decode mC_inForce.2.1 12 = .ok (.getfield 22, 3) := by decide +kernel
theorem dC_inForce_15 : decode mC_inForce.2.1 15 = .ok (.iload_n 3, 1) := by decide +kernel
theorem dC_inForce_16 : decode mC_inForce.2.1 16 = .ok (.iaload, 1) := by decide +kernel
theorem dC_inForce_17 : decode mC_inForce.2.1 17 = .ok (.iload_n 1, 1) := by decide +kernel
theorem dC_inForce_18 : decode mC_inForce.2.1 18 = .ok (.if_icmp .ne 15, 3) := by decide +kernel
theorem dC_inForce_21 : decode mC_inForce.2.1 21 = .ok (.aload_n 0, 1) := by decide +kernel
theorem dC_inForce_22 : decode mC_inForce.2.1 22 = .ok (.getfield 25, 3) := by decide +kernel
theorem dC_inForce_25 : decode mC_inForce.2.1 25 = .ok (.iload_n 3, 1) := by decide +kernel
theorem dC_inForce_26 : decode mC_inForce.2.1 26 = .ok (.iaload, 1) := by decide +kernel
theorem dC_inForce_27 : decode mC_inForce.2.1 27 = .ok (.iload_n 2, 1) := by decide +kernel
theorem dC_inForce_28 : decode mC_inForce.2.1 28 = .ok (.if_icmp .gt 5, 3) := by decide +kernel
theorem dC_inForce_31 : decode mC_inForce.2.1 31 = .ok (.iload_n 3, 1) := by decide +kernel
theorem dC_inForce_32 : decode mC_inForce.2.1 32 = .ok (.ireturn, 1) := by decide +kernel
theorem dC_inForce_33 : decode mC_inForce.2.1 33 = .ok (.iinc 3 (-1), 3) := by decide +kernel
theorem dC_inForce_36 : decode mC_inForce.2.1 36 = .ok (.goto (-29), 3) := by decide +kernel
theorem dC_inForce_39 : decode mC_inForce.2.1 39 = .ok (.iconst (-1), 1) := by decide +kernel
theorem dC_inForce_40 : decode mC_inForce.2.1 40 = .ok (.ireturn, 1) := by decide +kernel
theorem dC_mentions_0 : decode mC_mentions.2.1 0 = .ok (.iconst 0, 1) := by decide +kernel
theorem dC_mentions_1 : decode mC_mentions.2.1 1 = .ok (.istore_n 3, 1) := by decide +kernel
theorem dC_mentions_2 : decode mC_mentions.2.1 2 = .ok (.iload_n 3, 1) := by decide +kernel
theorem dC_mentions_3 : decode mC_mentions.2.1 3 = .ok (.aload_n 0, 1) := by decide +kernel
theorem dC_mentions_4 : decode mC_mentions.2.1 4 = .ok (.getfield 18, 3) := by decide +kernel
theorem dC_mentions_7 : decode mC_mentions.2.1 7 = .ok (.iload_n 1, 1) := by decide +kernel
theorem dC_mentions_8 : decode mC_mentions.2.1 8 = .ok (.iaload, 1) := by decide +kernel
theorem dC_mentions_9 : decode mC_mentions.2.1 9 = .ok (.if_icmp .ge 26, 3) := by decide +kernel
theorem dC_mentions_12 : decode mC_mentions.2.1 12 = .ok (.aload_n 0, 1) := by decide +kernel
theorem dC_mentions_13 : decode mC_mentions.2.1 13 = .ok (.getfield 15, 3) := by decide +kernel
theorem dC_mentions_16 : decode mC_mentions.2.1 16 = .ok (.iload_n 1, 1) := by decide +kernel
theorem dC_mentions_17 : decode mC_mentions.2.1 17 = .ok (.bipush 60, 2) := by decide +kernel
theorem dC_mentions_19 : decode mC_mentions.2.1 19 = .ok (.imul, 1) := by decide +kernel
theorem dC_mentions_20 : decode mC_mentions.2.1 20 = .ok (.iload_n 3, 1) := by decide +kernel
theorem dC_mentions_21 : decode mC_mentions.2.1 21 = .ok (.iadd, 1) := by decide +kernel
theorem dC_mentions_22 : decode mC_mentions.2.1 22 = .ok (.baload, 1) := by decide +kernel
theorem dC_mentions_23 : decode mC_mentions.2.1 23 = .ok (.iload_n 2, 1) := by decide +kernel
theorem dC_mentions_24 : decode mC_mentions.2.1 24 = .ok (.if_icmp .ne 5, 3) := by decide +kernel
theorem dC_mentions_27 : decode mC_mentions.2.1 27 = .ok (.iconst 1, 1) := by decide +kernel
theorem dC_mentions_28 : decode mC_mentions.2.1 28 = .ok (.ireturn, 1) := by decide +kernel
theorem dC_mentions_29 : decode mC_mentions.2.1 29 = .ok (.iinc 3 1, 3) := by decide +kernel
theorem dC_mentions_32 : decode mC_mentions.2.1 32 = .ok (.goto (-30), 3) := by decide +kernel
theorem dC_mentions_35 : decode mC_mentions.2.1 35 = .ok (.iconst 0, 1) := by decide +kernel
theorem dC_mentions_36 : decode mC_mentions.2.1 36 = .ok (.ireturn, 1) := by decide +kernel
theorem dC_copy_0 : decode mC_copy.2.1 0 = .ok (.aload_n 1, 1) := by decide +kernel
theorem dC_copy_1 : decode mC_copy.2.1 1 = .ok (.getfield 9, 3) := by decide +kernel
theorem dC_copy_4 : decode mC_copy.2.1 4 = .ok (.iconst 0, 1) := by decide +kernel
theorem dC_copy_5 : decode mC_copy.2.1 5 = .ok (.aload_n 0, 1) := by decide +kernel
theorem dC_copy_6 : decode mC_copy.2.1 6 = .ok (.getfield 9, 3) := by decide +kernel
theorem dC_copy_9 : decode mC_copy.2.1 9 = .ok (.iconst 0, 1) := by decide +kernel
theorem dC_copy_10 : decode mC_copy.2.1 10 = .ok (.bipush 60, 2) := by decide +kernel
theorem dC_copy_12 : decode mC_copy.2.1 12 = .ok (.invokestatic 35, 3) := by decide +kernel
theorem dC_copy_15 : decode mC_copy.2.1 15 = .ok (.aload_n 1, 1) := by decide +kernel
theorem dC_copy_16 : decode mC_copy.2.1 16 = .ok (.getfield 15, 3) := by decide +kernel
theorem dC_copy_19 : decode mC_copy.2.1 19 = .ok (.iconst 0, 1) := by decide +kernel
theorem dC_copy_20 : decode mC_copy.2.1 20 = .ok (.aload_n 0, 1) := by decide +kernel
theorem dC_copy_21 : decode mC_copy.2.1 21 = .ok (.getfield 15, 3) := by decide +kernel
theorem dC_copy_24 : decode mC_copy.2.1 24 = .ok (.iconst 0, 1) := by decide +kernel
theorem dC_copy_25 : decode mC_copy.2.1 25 = .ok (.sipush 600, 3) := by decide +kernel
theorem dC_copy_28 : decode mC_copy.2.1 28 = .ok (.invokestatic 35, 3) := by decide +kernel
theorem dC_copy_31 : decode mC_copy.2.1 31 = .ok (.aload_n 1, 1) := by decide +kernel
theorem dC_copy_32 : decode mC_copy.2.1 32 = .ok (.getfield 18, 3) := by decide +kernel
theorem dC_copy_35 : decode mC_copy.2.1 35 = .ok (.iconst 0, 1) := by decide +kernel
theorem dC_copy_36 : decode mC_copy.2.1 36 = .ok (.aload_n 0, 1) := by decide +kernel
theorem dC_copy_37 : decode mC_copy.2.1 37 = .ok (.getfield 18, 3) := by decide +kernel
theorem dC_copy_40 : decode mC_copy.2.1 40 = .ok (.iconst 0, 1) := by decide +kernel
theorem dC_copy_41 : decode mC_copy.2.1 41 = .ok (.bipush 10, 2) := by decide +kernel
theorem dC_copy_43 : decode mC_copy.2.1 43 = .ok (.invokestatic 35, 3) := by decide +kernel
theorem dC_copy_46 : decode mC_copy.2.1 46 = .ok (.aload_n 1, 1) := by decide +kernel
theorem dC_copy_47 : decode mC_copy.2.1 47 = .ok (.getfield 22, 3) := by decide +kernel
theorem dC_copy_50 : decode mC_copy.2.1 50 = .ok (.iconst 0, 1) := by decide +kernel
theorem dC_copy_51 : decode mC_copy.2.1 51 = .ok (.aload_n 0, 1) := by decide +kernel
theorem dC_copy_52 : decode mC_copy.2.1 52 = .ok (.getfield 22, 3) := by decide +kernel
theorem dC_copy_55 : decode mC_copy.2.1 55 = .ok (.iconst 0, 1) := by decide +kernel
theorem dC_copy_56 : decode mC_copy.2.1 56 = .ok (.bipush 10, 2) := by decide +kernel
theorem dC_copy_58 : decode mC_copy.2.1 58 = .ok (.invokestatic 35, 3) := by decide +kernel
theorem dC_copy_61 : decode mC_copy.2.1 61 = .ok (.aload_n 1, 1) := by decide +kernel
theorem dC_copy_62 : decode mC_copy.2.1 62 = .ok (.getfield 25, 3) := by decide +kernel
theorem dC_copy_65 : decode mC_copy.2.1 65 = .ok (.iconst 0, 1) := by decide +kernel
theorem dC_copy_66 : decode mC_copy.2.1 66 = .ok (.aload_n 0, 1) := by decide +kernel
theorem dC_copy_67 : decode mC_copy.2.1 67 = .ok (.getfield 25, 3) := by decide +kernel
theorem dC_copy_70 : decode mC_copy.2.1 70 = .ok (.iconst 0, 1) := by decide +kernel
theorem dC_copy_71 : decode mC_copy.2.1 71 = .ok (.bipush 10, 2) := by decide +kernel
theorem dC_copy_73 : decode mC_copy.2.1 73 = .ok (.invokestatic 35, 3) := by decide +kernel
theorem dC_copy_76 : decode mC_copy.2.1 76 = .ok (.aload_n 0, 1) := by decide +kernel
theorem dC_copy_77 : decode mC_copy.2.1 77 = .ok (.aload_n 1, 1) := by decide +kernel
theorem dC_copy_78 : decode mC_copy.2.1 78 = .ok (.getfield 28, 3) := by decide +kernel
theorem dC_copy_81 : decode mC_copy.2.1 81 = .ok (.putfield 28, 3) := by decide +kernel
theorem dC_copy_84 : decode mC_copy.2.1 84 = .ok (.aload_n 0, 1) := by decide +kernel
theorem dC_copy_85 : decode mC_copy.2.1 85 = .ok (.aload_n 1, 1) := by decide +kernel
theorem dC_copy_86 : decode mC_copy.2.1 86 = .ok (.getfield 32, 3) := by decide +kernel
theorem dC_copy_89 : decode mC_copy.2.1 89 = .ok (.putfield 32, 3) := by decide +kernel
theorem dC_copy_92 : decode mC_copy.2.1 92 = .ok (.return_, 1) := by decide +kernel
theorem dY_init_0 : decode mY_init.2.1 0 = .ok (.aload_n 0, 1) := by decide +kernel
theorem dY_init_1 : decode mY_init.2.1 1 = .ok (.invokespecial 3, 3) := by decide +kernel
theorem dY_init_4 : decode mY_init.2.1 4 = .ok (.aload_n 0, 1) := by decide +kernel
theorem dY_init_5 : decode mY_init.2.1 5 = .ok (.bipush 15, 2) := by decide +kernel
theorem dY_init_7 : decode mY_init.2.1 7 = .ok (.newarray .long, 2) := by decide +kernel
theorem dY_init_9 : decode mY_init.2.1 9 = .ok (.putfield 9, 3) := by decide +kernel
theorem dY_init_12 : decode mY_init.2.1 12 = .ok (.aload_n 0, 1) := by decide +kernel
theorem dY_init_13 : decode mY_init.2.1 13 = .ok (.sipush 901, 3) := by decide +kernel
theorem dY_init_16 : decode mY_init.2.1 16 = .ok (.newarray .int, 2) := by decide +kernel
theorem dY_init_18 : decode mY_init.2.1 18 = .ok (.putfield 15, 3) := by decide +kernel
theorem dY_init_21 : decode mY_init.2.1 21 = .ok (.aload_n 0, 1) := by decide +kernel
theorem dY_init_22 : decode mY_init.2.1 22 = .ok (.iconst 0, 1) := by decide +kernel
theorem dY_init_23 : decode mY_init.2.1 23 = .ok (.putfield 19, 3) := by decide +kernel
theorem dY_init_26 : decode mY_init.2.1 26 = .ok (.aload_n 0, 1) := by decide +kernel
theorem dY_init_27 : decode mY_init.2.1 27 = .ok (.bipush 31, 2) := by decide +kernel
theorem dY_init_29 : decode mY_init.2.1 29 = .ok (.putfield 23, 3) := by decide +kernel
theorem dY_init_32 : decode mY_init.2.1 32 = .ok (.aload_n 0, 1) := by decide +kernel
theorem dY_init_33 : decode mY_init.2.1 33 = .ok (.bipush 31, 2) := by decide +kernel
theorem dY_init_35 : decode mY_init.2.1 35 = .ok (.invokestatic 26, 3) := by decide +kernel
theorem dY_init_38 : decode mY_init.2.1 38 = .ok (.putfield 32, 3) := by decide +kernel
theorem dY_init_41 : decode mY_init.2.1 41 = .ok (.aload_n 0, 1) := by decide +kernel
theorem dY_init_42 : decode mY_init.2.1 42 = .ok (.iconst 0, 1) := by decide +kernel
theorem dY_init_43 : decode mY_init.2.1 43 = .ok (.invokevirtual 35, 3) := by decide +kernel
theorem dY_init_46 : decode mY_init.2.1 46 = .ok (.return_, 1) := by decide +kernel
theorem dY_countDry_0 : decode mY_countDry.2.1 0 = .ok (.iload_n 1, 1) := by decide +kernel
theorem dY_countDry_1 : decode mY_countDry.2.1 1 = .ok (.istore_n 2, 1) := by decide +kernel
theorem dY_countDry_2 : decode mY_countDry.2.1 2 = .ok (.iload_n 2, 1) := by decide +kernel
theorem dY_countDry_3 : decode mY_countDry.2.1 3 = .ok (.sipush 900, 3) := by decide +kernel
theorem dY_countDry_6 : decode mY_countDry.2.1 6 = .ok (.if_icmp .ge 51, 3) := by decide +kernel
theorem dY_countDry_9 : decode mY_countDry.2.1 9 = .ok (.aload_n 0, 1) := by decide +kernel
theorem dY_countDry_10 : decode mY_countDry.2.1 10 = .ok (.getfield 15, 3) := by decide +kernel
theorem dY_countDry_13 : decode mY_countDry.2.1 13 = .ok (.iload_n 2, 1) := by decide +kernel
theorem dY_countDry_14 : decode mY_countDry.2.1 14 = .ok (.iconst 1, 1) := by decide +kernel
theorem dY_countDry_15 : decode mY_countDry.2.1 15 = .ok (.iadd, 1) := by decide +kernel
theorem dY_countDry_16 : decode mY_countDry.2.1 16 = .ok (.aload_n 0, 1) := by decide +kernel
theorem dY_countDry_17 : decode mY_countDry.2.1 17 = .ok (.getfield 15, 3) := by decide +kernel
theorem dY_countDry_20 : decode mY_countDry.2.1 20 = .ok (.iload_n 2, 1) := by decide +kernel
theorem dY_countDry_21 : decode mY_countDry.2.1 21 = .ok (.iaload, 1) := by decide +kernel
theorem dY_countDry_22 : decode mY_countDry.2.1 22 = .ok (.aload_n 0, 1) := by decide +kernel
theorem dY_countDry_23 : decode mY_countDry.2.1 23 = .ok (.getfield 23, 3) := by decide +kernel
theorem dY_countDry_26 : decode mY_countDry.2.1 26 = .ok (.iload_n 2, 1) := by decide +kernel
theorem dY_countDry_27 : decode mY_countDry.2.1 27 = .ok (.bipush 7, 2) := by decide +kernel
theorem dY_countDry_29 : decode mY_countDry.2.1 29 = .ok (.irem, 1) := by decide +kernel
theorem dY_countDry_30 : decode mY_countDry.2.1 30 = .ok (.invokestatic 61, 3) := by decide +kernel
theorem dY_countDry_33 : decode mY_countDry.2.1 33 = .ok (.ifCond .eq 15, 3) := by decide +kernel
theorem dY_countDry_36 : decode mY_countDry.2.1 36 = .ok (.aload_n 0, 1) := by decide +kernel
theorem dY_countDry_37 : decode mY_countDry.2.1 37 = .ok (.iload_n 2, 1) := by decide +kernel
theorem dY_countDry_38 : decode mY_countDry.2.1 38 = .ok (.invokevirtual 51, 3) := by decide +kernel
theorem dY_countDry_41 : decode mY_countDry.2.1 41 = .ok (.ifCond .ne 7, 3) := by decide +kernel
theorem dY_countDry_44 : decode mY_countDry.2.1 44 = .ok (.iconst 1, 1) := by decide +kernel
theorem dY_countDry_45 : decode mY_countDry.2.1 45 = .ok (.goto 4, 3) := by decide +kernel
theorem dY_countDry_48 : decode mY_countDry.2.1 48 = .ok (.iconst 0, 1) := by decide +kernel
theorem dY_countDry_49 : decode mY_countDry.2.1 49 = .ok (.iadd, 1) := by decide +kernel
theorem dY_countDry_50 : decode mY_countDry.2.1 50 = .ok (.iastore, 1) := by decide +kernel
theorem dY_countDry_51 : decode mY_countDry.2.1 51 = .ok (.iinc 2 1, 3) := by decide +kernel
theorem dY_countDry_54 : decode mY_countDry.2.1 54 = .ok (.goto (-52), 3) := by decide +kernel
theorem dY_countDry_57 : decode mY_countDry.2.1 57 = .ok (.return_, 1) := by decide +kernel
theorem dY_isWet_0 : decode mY_isWet.2.1 0 = .ok (.aload_n 0, 1) := by decide +kernel
theorem dY_isWet_1 : decode mY_isWet.2.1 1 = .ok (.getfield 9, 3) := by decide +kernel
theorem dY_isWet_4 : decode mY_isWet.2.1 4 = .ok (.iload_n 1, 1) := by decide +kernel
theorem dY_isWet_5 : decode mY_isWet.2.1 5 = .ok (.bipush 6, 2) := by decide +kernel
theorem dY_isWet_7 : decode mY_isWet.2.1 7 = .ok (.ishr, 1) := by decide +kernel
theorem dY_isWet_8 : decode mY_isWet.2.1 8 = .ok (.laload, 1) := by decide +kernel
theorem dY_isWet_9 : decode mY_isWet.2.1 9 = .ok (.iload_n 1, 1) := by decide +kernel
theorem dY_isWet_10 : decode mY_isWet.2.1 10 = .ok (.bipush 63, 2) := by decide +kernel
theorem dY_isWet_12 : decode mY_isWet.2.1 12 = .ok (.iand, 1) := by decide +kernel
theorem dY_isWet_13 : decode mY_isWet.2.1 13 = .ok (.lushr, 1) := by decide +kernel
theorem dY_isWet_14 : decode mY_isWet.2.1 14 = .ok (.lconst 1, 1) := by decide +kernel
theorem dY_isWet_15 : decode mY_isWet.2.1 15 = .ok (.land, 1) := by decide +kernel
theorem dY_isWet_16 : decode mY_isWet.2.1 16 = .ok (.lconst 0, 1) := by decide +kernel
theorem dY_isWet_17 : decode mY_isWet.2.1 17 = .ok (.lcmp, 1) := by decide +kernel
theorem dY_isWet_18 : decode mY_isWet.2.1 18 = .ok (.ifCond .eq 7, 3) := by decide +kernel
theorem dY_isWet_21 : decode mY_isWet.2.1 21 = .ok (.iconst 1, 1) := by decide +kernel
theorem dY_isWet_22 : decode mY_isWet.2.1 22 = .ok (.goto 4, 3) := by decide +kernel
theorem dY_isWet_25 : decode mY_isWet.2.1 25 = .ok (.iconst 0, 1) := by decide +kernel
theorem dY_isWet_26 : decode mY_isWet.2.1 26 = .ok (.ireturn, 1) := by decide +kernel
theorem dY_turnWeek_0 : decode mY_turnWeek.2.1 0 = .ok (.aload_n 0, 1) := by decide +kernel
theorem dY_turnWeek_1 : decode mY_turnWeek.2.1 1 = .ok (.getfield 23, 3) := by decide +kernel
theorem dY_turnWeek_4 : decode mY_turnWeek.2.1 4 = .ok (.istore_n 2, 1) := by decide +kernel
theorem dY_turnWeek_5 : decode mY_turnWeek.2.1 5 = .ok (.aload_n 0, 1) := by decide +kernel
theorem dY_turnWeek_6 : decode mY_turnWeek.2.1 6 = .ok (.iload_n 1, 1) := by decide +kernel
theorem dY_turnWeek_7 : decode mY_turnWeek.2.1 7 = .ok (.putfield 23, 3) := by decide +kernel
theorem dY_turnWeek_10 : decode mY_turnWeek.2.1 10 = .ok (.aload_n 0, 1) := by decide +kernel
theorem dY_turnWeek_11 : decode mY_turnWeek.2.1 11 = .ok (.iconst 1, 1) := by decide +kernel
theorem dY_turnWeek_12 : decode mY_turnWeek.2.1 12 = .ok (.iload_n 1, 1) := by decide +kernel
theorem dY_turnWeek_13 : decode mY_turnWeek.2.1 13 = .ok (.invokestatic 26, 3) := by decide +kernel
theorem dY_turnWeek_16 : decode mY_turnWeek.2.1 16 = .ok (.invokestatic 45, 3) := by decide +kernel
theorem dY_turnWeek_19 : decode mY_turnWeek.2.1 19 = .ok (.putfield 32, 3) := by decide +kernel
theorem dY_turnWeek_22 : decode mY_turnWeek.2.1 22 = .ok (.aload_n 0, 1) := by decide +kernel
theorem dY_turnWeek_23 : decode mY_turnWeek.2.1 23 = .ok (.iconst 0, 1) := by decide +kernel
theorem dY_turnWeek_24 : decode mY_turnWeek.2.1 24 = .ok (.invokevirtual 35, 3) := by decide +kernel
theorem dY_turnWeek_27 : decode mY_turnWeek.2.1 27 = .ok (.iload_n 2, 1) := by decide +kernel
theorem dY_turnWeek_28 : decode mY_turnWeek.2.1 28 = .ok (.ireturn, 1) := by decide +kernel
theorem dY_turnRain_0 : decode mY_turnRain.2.1 0 = .ok (.iconst 0, 1) := by decide +kernel
theorem dY_turnRain_1 : decode mY_turnRain.2.1 1 = .ok (.istore 4, 2) := by decide +kernel
theorem dY_turnRain_3 : decode mY_turnRain.2.1 3 = .ok (.iload_n 1, 1) := by decide +kernel
theorem dY_turnRain_4 : decode mY_turnRain.2.1 4 = .ok (.istore 5, 2) := by decide +kernel
theorem dY_turnRain_6 : decode mY_turnRain.2.1 6 = .ok (.iload 5, 2) := by decide +kernel
theorem dY_turnRain_8 : decode mY_turnRain.2.1 8 = .ok (.iload_n 1, 1) := by decide +kernel
theorem dY_turnRain_9 : decode mY_turnRain.2.1 9 = .ok (.iload_n 2, 1) := by decide +kernel
theorem dY_turnRain_10 : decode mY_turnRain.2.1 10 = .ok (.iadd, 1) := by decide +kernel
theorem dY_turnRain_11 : decode mY_turnRain.2.1 11 = .ok (.if_icmp .ge 42, 3) := by decide +kernel
theorem dY_turnRain_14 : decode mY_turnRain.2.1 14 = .ok (.aload_n 0, 1) := by decide +kernel
theorem dY_turnRain_15 : decode mY_turnRain.2.1 15 = .ok (.iload 5, 2) := by decide +kernel
theorem dY_turnRain_17 : decode mY_turnRain.2.1 17 = .ok (.invokevirtual 51, 3) := by decide +kernel
theorem dY_turnRain_20 : decode mY_turnRain.2.1 20 = .ok (.iload_n 3, 1) := by decide +kernel
theorem dY_turnRain_21 : decode mY_turnRain.2.1 21 = .ok (.if_icmp .eq 26, 3) := by decide +kernel
theorem dY_turnRain_24 : decode mY_turnRain.2.1 24 = .ok (.aload_n 0, 1) := by decide +kernel
theorem dY_turnRain_25 : decode mY_turnRain.2.1 25 = .ok (.getfield 9, 3) := by decide +kernel
theorem dY_turnRain_28 : decode mY_turnRain.2.1 28 = .ok (.iload 5, 2) := by decide +kernel
theorem dY_turnRain_30 : decode mY_turnRain.2.1 30 = .ok (.bipush 6, 2) := by decide +kernel
theorem dY_turnRain_32 : decode mY_turnRain.2.1 32 = .ok (.ishr, 1) := by decide +kernel
theorem dY_turnRain_33 : decode mY_turnRain.2.1 33 = .ok (.dup2, 1) := by decide +kernel
theorem dY_turnRain_34 : decode mY_turnRain.2.1 34 = .ok (.laload, 1) := by decide +kernel
theorem dY_turnRain_35 : decode mY_turnRain.2.1 35 = .ok (.lconst 1, 1) := by decide +kernel
theorem dY_turnRain_36 : decode mY_turnRain.2.1 36 = .ok (.iload 5, 2) := by decide +kernel
theorem dY_turnRain_38 : decode mY_turnRain.2.1 38 = .ok (.bipush 63, 2) := by decide +kernel
theorem dY_turnRain_40 : decode mY_turnRain.2.1 40 = .ok (.iand, 1) := by decide +kernel
theorem dY_turnRain_41 : decode mY_turnRain.2.1 41 = .ok (.lshl, 1) := by decide +kernel
theorem dY_turnRain_42 : decode mY_turnRain.2.1 42 = .ok (.lxor, 1) := by decide +kernel
theorem dY_turnRain_43 : decode mY_turnRain.2.1 43 = .ok (.lastore, 1) := by decide +kernel
theorem dY_turnRain_44 : decode mY_turnRain.2.1 44 = .ok (.iinc 4 1, 3) := by decide +kernel
theorem dY_turnRain_47 : decode mY_turnRain.2.1 47 = .ok (.iinc 5 1, 3) := by decide +kernel
theorem dY_turnRain_50 : decode mY_turnRain.2.1 50 = .ok (.goto (-44), 3) := by decide +kernel
theorem dY_turnRain_53 : decode mY_turnRain.2.1 53 = .ok (.aload_n 0, 1) := by decide +kernel
theorem dY_turnRain_54 : decode mY_turnRain.2.1 54 = .ok (.dup, 1) := by decide +kernel
theorem dY_turnRain_55 : decode mY_turnRain.2.1 55 = .ok (.getfield 19, 3) := by decide +kernel
theorem dY_turnRain_58 : decode mY_turnRain.2.1 58 = .ok (.iload_n 3, 1) := by decide +kernel
theorem dY_turnRain_59 : decode mY_turnRain.2.1 59 = .ok (.ifCond .eq 8, 3) := by decide +kernel
theorem dY_turnRain_62 : decode mY_turnRain.2.1 62 = .ok (.iload 4, 2) := by decide +kernel
theorem dY_turnRain_64 : decode mY_turnRain.2.1 64 = .ok (.goto 6, 3) := by decide +kernel
theorem dY_turnRain_67 : decode mY_turnRain.2.1 67 = .ok (.iload 4, 2) := by decide +kernel
theorem dY_turnRain_69 : decode mY_turnRain.2.1 69 = .ok (.ineg, 1) := by decide +kernel
theorem dY_turnRain_70 : decode mY_turnRain.2.1 70 = .ok (.iadd, 1) := by decide +kernel
theorem dY_turnRain_71 : decode mY_turnRain.2.1 71 = .ok (.putfield 19, 3) := by decide +kernel
theorem dY_turnRain_74 : decode mY_turnRain.2.1 74 = .ok (.aload_n 0, 1) := by decide +kernel
theorem dY_turnRain_75 : decode mY_turnRain.2.1 75 = .ok (.iload_n 1, 1) := by decide +kernel
theorem dY_turnRain_76 : decode mY_turnRain.2.1 76 = .ok (.invokevirtual 35, 3) := by decide +kernel
theorem dY_turnRain_79 : decode mY_turnRain.2.1 79 = .ok (.iload 4, 2) := by decide +kernel
theorem dY_turnRain_81 : decode mY_turnRain.2.1 81 = .ok (.ireturn, 1) := by decide +kernel
theorem dY_endOf_0 : decode mY_endOf.2.1 0 = .ok (.iload_n 3, 1) := by decide +kernel
theorem dY_endOf_1 : decode mY_endOf.2.1 1 = .ok (.ifCond .gt 5, 3) := by decide +kernel
theorem dY_endOf_4 : decode mY_endOf.2.1 4 = .ok (.iload_n 2, 1) := by decide +kernel
theorem dY_endOf_5 : decode mY_endOf.2.1 5 = .ok (.ireturn, 1) := by decide +kernel
theorem dY_endOf_6 : decode mY_endOf.2.1 6 = .ok (.iload_n 1, 1) := by decide +kernel
theorem dY_endOf_7 : decode mY_endOf.2.1 7 = .ok (.iconst 4, 1) := by decide +kernel
theorem dY_endOf_8 : decode mY_endOf.2.1 8 = .ok (.if_icmp .eq 8, 3) := by decide +kernel
theorem dY_endOf_11 : decode mY_endOf.2.1 11 = .ok (.iload_n 1, 1) := by decide +kernel
theorem dY_endOf_12 : decode mY_endOf.2.1 12 = .ok (.iconst 5, 1) := by decide +kernel
theorem dY_endOf_13 : decode mY_endOf.2.1 13 = .ok (.if_icmp .ne 7, 3) := by decide +kernel
theorem dY_endOf_16 : decode mY_endOf.2.1 16 = .ok (.iload_n 2, 1) := by decide +kernel
theorem dY_endOf_17 : decode mY_endOf.2.1 17 = .ok (.iload_n 3, 1) := by decide +kernel
theorem dY_endOf_18 : decode mY_endOf.2.1 18 = .ok (.iadd, 1) := by decide +kernel
theorem dY_endOf_19 : decode mY_endOf.2.1 19 = .ok (.ireturn, 1) := by decide +kernel
theorem dY_endOf_20 : decode mY_endOf.2.1 20 = .ok (.iload_n 1, 1) := by decide +kernel
theorem dY_endOf_21 : decode mY_endOf.2.1 21 = .ok (.iconst 1, 1) := by decide +kernel
theorem dY_endOf_22 : decode mY_endOf.2.1 22 = .ok (.if_icmp .ne 10, 3) := by decide +kernel
theorem dY_endOf_25 : decode mY_endOf.2.1 25 = .ok (.iload_n 2, 1) := by decide +kernel
theorem dY_endOf_26 : decode mY_endOf.2.1 26 = .ok (.sipush 900, 3) := by decide +kernel
theorem dY_endOf_29 : decode mY_endOf.2.1 29 = .ok (.if_icmp .lt 10, 3) := by decide +kernel
theorem dY_endOf_32 : decode mY_endOf.2.1 32 = .ok (.aload_n 0, 1) := by decide +kernel
theorem dY_endOf_33 : decode mY_endOf.2.1 33 = .ok (.iload_n 2, 1) := by decide +kernel
theorem dY_endOf_34 : decode mY_endOf.2.1 34 = .ok (.iload_n 3, 1) := by decide +kernel
theorem dY_endOf_35 : decode mY_endOf.2.1 35 = .ok (.invokevirtual 55, 3) := by decide +kernel
theorem dY_endOf_38 : decode mY_endOf.2.1 38 = .ok (.ireturn, 1) := by decide +kernel
theorem dY_endOf_39 : decode mY_endOf.2.1 39 = .ok (.aload_n 0, 1) := by decide +kernel
theorem dY_endOf_40 : decode mY_endOf.2.1 40 = .ok (.getfield 15, 3) := by decide +kernel
theorem dY_endOf_43 : decode mY_endOf.2.1 43 = .ok (.iload_n 2, 1) := by decide +kernel
theorem dY_endOf_44 : decode mY_endOf.2.1 44 = .ok (.iaload, 1) := by decide +kernel
theorem dY_endOf_45 : decode mY_endOf.2.1 45 = .ok (.iload_n 3, 1) := by decide +kernel
theorem dY_endOf_46 : decode mY_endOf.2.1 46 = .ok (.iadd, 1) := by decide +kernel
theorem dY_endOf_47 : decode mY_endOf.2.1 47 = .ok (.istore 4, 2) := by decide +kernel
theorem dY_endOf_49 : decode mY_endOf.2.1 49 = .ok (.iload 4, 2) := by decide +kernel
theorem dY_endOf_51 : decode mY_endOf.2.1 51 = .ok (.aload_n 0, 1) := by decide +kernel
theorem dY_endOf_52 : decode mY_endOf.2.1 52 = .ok (.getfield 15, 3) := by decide +kernel
theorem dY_endOf_55 : decode mY_endOf.2.1 55 = .ok (.sipush 900, 3) := by decide +kernel
theorem dY_endOf_58 : decode mY_endOf.2.1 58 = .ok (.iaload, 1) := by decide +kernel
theorem dY_endOf_59 : decode mY_endOf.2.1 59 = .ok (.if_icmp .le 22, 3) := by decide +kernel
theorem dY_endOf_62 : decode mY_endOf.2.1 62 = .ok (.aload_n 0, 1) := by decide +kernel
theorem dY_endOf_63 : decode mY_endOf.2.1 63 = .ok (.sipush 900, 3) := by decide +kernel
theorem dY_endOf_66 : decode mY_endOf.2.1 66 = .ok (.iload 4, 2) := by decide +kernel
theorem dY_endOf_68 : decode mY_endOf.2.1 68 = .ok (.aload_n 0, 1) := by decide +kernel
theorem dY_endOf_69 : decode mY_endOf.2.1 69 = .ok (.getfield 15, 3) := by decide +kernel
theorem dY_endOf_72 : decode mY_endOf.2.1 72 = .ok (.sipush 900, 3) := by decide +kernel
theorem dY_endOf_75 : decode mY_endOf.2.1 75 = .ok (.iaload, 1) := by decide +kernel
theorem dY_endOf_76 : decode mY_endOf.2.1 76 = .ok (.isub, 1) := by decide +kernel
theorem dY_endOf_77 : decode mY_endOf.2.1 77 = .ok (.invokevirtual 55, 3) := by decide +kernel
theorem dY_endOf_80 : decode mY_endOf.2.1 80 = .ok (.ireturn, 1) := by decide +kernel
theorem dY_endOf_81 : decode mY_endOf.2.1 81 = .ok (.aload_n 0, 1) := by decide +kernel
theorem dY_endOf_82 : decode mY_endOf.2.1 82 = .ok (.iload 4, 2) := by decide +kernel
theorem dY_endOf_84 : decode mY_endOf.2.1 84 = .ok (.iload_n 2, 1) := by decide +kernel
theorem dY_endOf_85 : decode mY_endOf.2.1 85 = .ok (.invokevirtual 58, 3) := by decide +kernel
theorem dY_endOf_88 : decode mY_endOf.2.1 88 = .ok (.ireturn, 1) := by decide +kernel
theorem dY_byWeek_0 : decode mY_byWeek.2.1 0 = .ok (.iload_n 2, 1) := by decide +kernel
theorem dY_byWeek_1 : decode mY_byWeek.2.1 1 = .ok (.iconst 1, 1) := by decide +kernel
theorem dY_byWeek_2 : decode mY_byWeek.2.1 2 = .ok (.isub, 1) := by decide +kernel
theorem dY_byWeek_3 : decode mY_byWeek.2.1 3 = .ok (.aload_n 0, 1) := by decide +kernel
theorem dY_byWeek_4 : decode mY_byWeek.2.1 4 = .ok (.getfield 32, 3) := by decide +kernel
theorem dY_byWeek_7 : decode mY_byWeek.2.1 7 = .ok (.idiv, 1) := by decide +kernel
theorem dY_byWeek_8 : decode mY_byWeek.2.1 8 = .ok (.istore_n 3, 1) := by decide +kernel
theorem dY_byWeek_9 : decode mY_byWeek.2.1 9 = .ok (.iload_n 2, 1) := by decide +kernel
theorem dY_byWeek_10 : decode mY_byWeek.2.1 10 = .ok (.iload_n 3, 1) := by decide +kernel
theorem dY_byWeek_11 : decode mY_byWeek.2.1 11 = .ok (.aload_n 0, 1) := by decide +kernel
theorem dY_byWeek_12 : decode mY_byWeek.2.1 12 = .ok (.getfield 32, 3) := by decide +kernel
theorem dY_byWeek_15 : decode mY_byWeek.2.1 15 = .ok (.imul, 1) := by decide +kernel
theorem dY_byWeek_16 : decode mY_byWeek.2.1 16 = .ok (.isub, 1) := by decide +kernel
theorem dY_byWeek_17 : decode mY_byWeek.2.1 17 = .ok (.istore 4, 2) := by decide +kernel
theorem dY_byWeek_19 : decode mY_byWeek.2.1 19 = .ok (.iload_n 1, 1) := by decide +kernel
theorem dY_byWeek_20 : decode mY_byWeek.2.1 20 = .ok (.bipush 7, 2) := by decide +kernel
theorem dY_byWeek_22 : decode mY_byWeek.2.1 22 = .ok (.iload_n 3, 1) := by decide +kernel
theorem dY_byWeek_23 : decode mY_byWeek.2.1 23 = .ok (.imul, 1) := by decide +kernel
theorem dY_byWeek_24 : decode mY_byWeek.2.1 24 = .ok (.iadd, 1) := by decide +kernel
theorem dY_byWeek_25 : decode mY_byWeek.2.1 25 = .ok (.istore 5, 2) := by decide +kernel
theorem dY_byWeek_27 : decode mY_byWeek.2.1 27 = .ok (.iconst 0, 1) := by decide +kernel
theorem dY_byWeek_28 : decode mY_byWeek.2.1 28 = .ok (.istore 6, 2) := by decide +kernel
theorem dY_byWeek_30 : decode mY_byWeek.2.1 30 = .ok (.iload 6, 2) := by decide +kernel
theorem dY_byWeek_32 : decode mY_byWeek.2.1 32 = .ok (.bipush 7, 2) := by decide +kernel
theorem dY_byWeek_34 : decode mY_byWeek.2.1 34 = .ok (.if_icmp .ge 34, 3) := by decide +kernel
theorem dY_byWeek_37 : decode mY_byWeek.2.1 37 = .ok (.iload 4, 2) := by decide +kernel
theorem dY_byWeek_39 : decode mY_byWeek.2.1 39 = .ok (.ifCond .le 29, 3) := by decide +kernel
theorem dY_byWeek_42 : decode mY_byWeek.2.1 42 = .ok (.iload 4, 2) := by decide +kernel
theorem dY_byWeek_44 : decode mY_byWeek.2.1 44 = .ok (.aload_n 0, 1) := by decide +kernel
theorem dY_byWeek_45 : decode mY_byWeek.2.1 45 = .ok (.getfield 23, 3) := by decide +kernel
theorem dY_byWeek_48 : decode mY_byWeek.2.1 48 = .ok (.iload 5, 2) := by decide +kernel
theorem dY_byWeek_50 : decode mY_byWeek.2.1 50 = .ok (.bipush 7, 2) := by decide +kernel
theorem dY_byWeek_52 : decode mY_byWeek.2.1 52 = .ok (.irem, 1) := by decide +kernel
theorem dY_byWeek_53 : decode mY_byWeek.2.1 53 = .ok (.ishr, 1) := by decide +kernel
theorem dY_byWeek_54 : decode mY_byWeek.2.1 54 = .ok (.iconst 1, 1) := by decide +kernel
theorem dY_byWeek_55 : decode mY_byWeek.2.1 55 = .ok (.iand, 1) := by decide +kernel
theorem dY_byWeek_56 : decode mY_byWeek.2.1 56 = .ok (.isub, 1) := by decide +kernel
theorem dY_byWeek_57 : decode mY_byWeek.2.1 57 = .ok (.istore 4, 2) := by decide +kernel
theorem dY_byWeek_59 : decode mY_byWeek.2.1 59 = .ok (.iinc 5 1, 3) := by decide +kernel
theorem dY_byWeek_62 : decode mY_byWeek.2.1 62 = .ok (.iinc 6 1, 3) := by decide +kernel
theorem dY_byWeek_65 : decode mY_byWeek.2.1 65 = .ok (.goto (-35), 3) := by decide +kernel
theorem dY_byWeek_68 : decode mY_byWeek.2.1 68 = .ok (.iload 5, 2) := by decide +kernel
theorem dY_byWeek_70 : decode mY_byWeek.2.1 70 = .ok (.ireturn, 1) := by decide +kernel
theorem dY_firstWith_0 : decode mY_firstWith.2.1 0 = .ok (.iload_n 2, 1) := by decide +kernel
theorem dY_firstWith_1 : decode mY_firstWith.2.1 1 = .ok (.iconst 1, 1) := by decide +kernel
theorem dY_firstWith_2 : decode mY_firstWith.2.1 2 = .ok (.iadd, 1) := by decide +kernel
theorem dY_firstWith_3 : decode mY_firstWith.2.1 3 = .ok (.istore_n 3, 1) := by decide +kernel
theorem dY_firstWith_4 : decode mY_firstWith.2.1 4 = .ok (.sipush 900, 3) := by decide +kernel
theorem dY_firstWith_7 : decode mY_firstWith.2.1 7 = .ok (.istore 4, 2) := by decide +kernel
theorem dY_firstWith_9 : decode mY_firstWith.2.1 9 = .ok (.iconst 0, 1) := by decide +kernel
theorem dY_firstWith_10 : decode mY_firstWith.2.1 10 = .ok (.istore 5, 2) := by decide +kernel
theorem dY_firstWith_12 : decode mY_firstWith.2.1 12 = .ok (.iload 5, 2) := by decide +kernel
theorem dY_firstWith_14 : decode mY_firstWith.2.1 14 = .ok (.sipush 900, 3) := by decide +kernel
theorem dY_firstWith_17 : decode mY_firstWith.2.1 17 = .ok (.if_icmp .ge 46, 3) := by decide +kernel
theorem dY_firstWith_20 : decode mY_firstWith.2.1 20 = .ok (.iload_n 3, 1) := by decide +kernel
theorem dY_firstWith_21 : decode mY_firstWith.2.1 21 = .ok (.iload 4, 2) := by decide +kernel
theorem dY_firstWith_23 : decode mY_firstWith.2.1 23 = .ok (.if_icmp .ge 40, 3) := by decide +kernel
theorem dY_firstWith_26 : decode mY_firstWith.2.1 26 = .ok (.iload_n 3, 1) := by decide +kernel
theorem dY_firstWith_27 : decode mY_firstWith.2.1 27 = .ok (.iload 4, 2) := by decide +kernel
theorem dY_firstWith_29 : decode mY_firstWith.2.1 29 = .ok (.iadd, 1) := by decide +kernel
theorem dY_firstWith_30 : decode mY_firstWith.2.1 30 = .ok (.iconst 2, 1) := by decide +kernel
theorem dY_firstWith_31 : decode mY_firstWith.2.1 31 = .ok (.idiv, 1) := by decide +kernel
theorem dY_firstWith_32 : decode mY_firstWith.2.1 32 = .ok (.istore 6, 2) := by decide +kernel
theorem dY_firstWith_34 : decode mY_firstWith.2.1 34 = .ok (.aload_n 0, 1) := by decide +kernel
theorem dY_firstWith_35 : decode mY_firstWith.2.1 35 = .ok (.getfield 15, 3) := by decide +kernel
theorem dY_firstWith_38 : decode mY_firstWith.2.1 38 = .ok (.iload 6, 2) := by decide +kernel
theorem dY_firstWith_40 : decode mY_firstWith.2.1 40 = .ok (.iaload, 1) := by decide +kernel
theorem dY_firstWith_41 : decode mY_firstWith.2.1 41 = .ok (.iload_n 1, 1) := by decide +kernel
theorem dY_firstWith_42 : decode mY_firstWith.2.1 42 = .ok (.if_icmp .lt 10, 3) := by decide +kernel
theorem dY_firstWith_45 : decode mY_firstWith.2.1 45 = .ok (.iload 6, 2) := by decide +kernel
theorem dY_firstWith_47 : decode mY_firstWith.2.1 47 = .ok (.istore 4, 2) := by decide +kernel
theorem dY_firstWith_49 : decode mY_firstWith.2.1 49 = .ok (.goto 8, 3) := by decide +kernel
theorem dY_firstWith_52 : decode mY_firstWith.2.1 52 = .ok (.iload 6, 2) := by decide +kernel
theorem dY_firstWith_54 : decode mY_firstWith.2.1 54 = .ok (.iconst 1, 1) := by decide +kernel
theorem dY_firstWith_55 : decode mY_firstWith.2.1 55 = .ok (.iadd, 1) := by decide +kernel
theorem dY_firstWith_56 : decode mY_firstWith.2.1 56 = .ok (.istore_n 3, 1) := by decide +kernel
theorem dY_firstWith_57 : decode mY_firstWith.2.1 57 = .ok (.iinc 5 1, 3) := by decide +kernel
theorem dY_firstWith_60 : decode mY_firstWith.2.1 60 = .ok (.goto (-48), 3) := by decide +kernel
theorem dY_firstWith_63 : decode mY_firstWith.2.1 63 = .ok (.iload 4, 2) := by decide +kernel
theorem dY_firstWith_65 : decode mY_firstWith.2.1 65 = .ok (.ireturn, 1) := by decide +kernel
theorem dY_copy_0 : decode mY_copy.2.1 0 = .ok (.aload_n 1, 1) := by decide +kernel
theorem dY_copy_1 : decode mY_copy.2.1 1 = .ok (.getfield 9, 3) := by decide +kernel
theorem dY_copy_4 : decode mY_copy.2.1 4 = .ok (.iconst 0, 1) := by decide +kernel
theorem dY_copy_5 : decode mY_copy.2.1 5 = .ok (.aload_n 0, 1) := by decide +kernel
theorem dY_copy_6 : decode mY_copy.2.1 6 = .ok (.getfield 9, 3) := by decide +kernel
theorem dY_copy_9 : decode mY_copy.2.1 9 = .ok (.iconst 0, 1) := by decide +kernel
theorem dY_copy_10 : decode mY_copy.2.1 10 = .ok (.bipush 15, 2) := by decide +kernel
theorem dY_copy_12 : decode mY_copy.2.1 12 = .ok (.invokestatic 39, 3) := by decide +kernel
theorem dY_copy_15 : decode mY_copy.2.1 15 = .ok (.aload_n 1, 1) := by decide +kernel
theorem dY_copy_16 : decode mY_copy.2.1 16 = .ok (.getfield 15, 3) := by decide +kernel
theorem dY_copy_19 : decode mY_copy.2.1 19 = .ok (.iconst 0, 1) := by decide +kernel
theorem dY_copy_20 : decode mY_copy.2.1 20 = .ok (.aload_n 0, 1) := by decide +kernel
theorem dY_copy_21 : decode mY_copy.2.1 21 = .ok (.getfield 15, 3) := by decide +kernel
theorem dY_copy_24 : decode mY_copy.2.1 24 = .ok (.iconst 0, 1) := by decide +kernel
theorem dY_copy_25 : decode mY_copy.2.1 25 = .ok (.sipush 901, 3) := by decide +kernel
theorem dY_copy_28 : decode mY_copy.2.1 28 = .ok (.invokestatic 39, 3) := by decide +kernel
theorem dY_copy_31 : decode mY_copy.2.1 31 = .ok (.aload_n 0, 1) := by decide +kernel
theorem dY_copy_32 : decode mY_copy.2.1 32 = .ok (.aload_n 1, 1) := by decide +kernel
theorem dY_copy_33 : decode mY_copy.2.1 33 = .ok (.getfield 19, 3) := by decide +kernel
theorem dY_copy_36 : decode mY_copy.2.1 36 = .ok (.putfield 19, 3) := by decide +kernel
theorem dY_copy_39 : decode mY_copy.2.1 39 = .ok (.aload_n 0, 1) := by decide +kernel
theorem dY_copy_40 : decode mY_copy.2.1 40 = .ok (.aload_n 1, 1) := by decide +kernel
theorem dY_copy_41 : decode mY_copy.2.1 41 = .ok (.getfield 23, 3) := by decide +kernel
theorem dY_copy_44 : decode mY_copy.2.1 44 = .ok (.putfield 23, 3) := by decide +kernel
theorem dY_copy_47 : decode mY_copy.2.1 47 = .ok (.aload_n 0, 1) := by decide +kernel
theorem dY_copy_48 : decode mY_copy.2.1 48 = .ok (.aload_n 1, 1) := by decide +kernel
theorem dY_copy_49 : decode mY_copy.2.1 49 = .ok (.getfield 32, 3) := by decide +kernel
theorem dY_copy_52 : decode mY_copy.2.1 52 = .ok (.putfield 32, 3) := by decide +kernel
theorem dY_copy_55 : decode mY_copy.2.1 55 = .ok (.return_, 1) := by decide +kernel
theorem dE_init_0 : decode mE_init.2.1 0 = .ok (.aload_n 0, 1) := by decide +kernel
theorem dE_init_1 : decode mE_init.2.1 1 = .ok (.invokespecial 3, 3) := by decide +kernel
theorem dE_init_4 : decode mE_init.2.1 4 = .ok (.aload_n 0, 1) := by decide +kernel
theorem dE_init_5 : decode mE_init.2.1 5 = .ok (.bipush 20, 2) := by decide +kernel
theorem dE_init_7 : decode mE_init.2.1 7 = .ok (.newarray .int, 2) := by decide +kernel
theorem dE_init_9 : decode mE_init.2.1 9 = .ok (.putfield 9, 3) := by decide +kernel
theorem dE_init_12 : decode mE_init.2.1 12 = .ok (.aload_n 0, 1) := by decide +kernel
theorem dE_init_13 : decode mE_init.2.1 13 = .ok (.bipush 20, 2) := by decide +kernel
theorem dE_init_15 : decode mE_init.2.1 15 = .ok (.newarray .int, 2) := by decide +kernel
theorem dE_init_17 : decode mE_init.2.1 17 = .ok (.putfield 15, 3) := by decide +kernel
theorem dE_init_20 : decode mE_init.2.1 20 = .ok (.aload_n 0, 1) := by decide +kernel
theorem dE_init_21 : decode mE_init.2.1 21 = .ok (.bipush 20, 2) := by decide +kernel
theorem dE_init_23 : decode mE_init.2.1 23 = .ok (.newarray .int, 2) := by decide +kernel
theorem dE_init_25 : decode mE_init.2.1 25 = .ok (.putfield 18, 3) := by decide +kernel
theorem dE_init_28 : decode mE_init.2.1 28 = .ok (.aload_n 0, 1) := by decide +kernel
theorem dE_init_29 : decode mE_init.2.1 29 = .ok (.bipush 20, 2) := by decide +kernel
theorem dE_init_31 : decode mE_init.2.1 31 = .ok (.newarray .int, 2) := by decide +kernel
theorem dE_init_33 : decode mE_init.2.1 33 = .ok (.putfield 21, 3) := by decide +kernel
theorem dE_init_36 : decode mE_init.2.1 36 = .ok (.aload_n 0, 1) := by decide +kernel
theorem dE_init_37 : decode mE_init.2.1 37 = .ok (.bipush 20, 2) := by decide +kernel
theorem dE_init_39 : decode mE_init.2.1 39 = .ok (.newarray .int, 2) := by decide +kernel
theorem dE_init_41 : decode mE_init.2.1 41 = .ok (.putfield 24, 3) := by decide +kernel
theorem dE_init_44 : decode mE_init.2.1 44 = .ok (.aload_n 0, 1) := by decide +kernel
theorem dE_init_45 : decode mE_init.2.1 45 = .ok (.bipush 20, 2) := by decide +kernel
theorem dE_init_47 : decode mE_init.2.1 47 = .ok (.newarray .int, 2) := by decide +kernel
theorem dE_init_49 : decode mE_init.2.1 49 = .ok (.putfield 27, 3) := by decide +kernel
theorem dE_init_52 : decode mE_init.2.1 52 = .ok (.aload_n 0, 1) := by decide +kernel
theorem dE_init_53 : decode mE_init.2.1 53 = .ok (.bipush 20, 2) := by decide +kernel
theorem dE_init_55 : decode mE_init.2.1 55 = .ok (.newarray .int, 2) := by decide +kernel
theorem dE_init_57 : decode mE_init.2.1 57 = .ok (.putfield 30, 3) := by decide +kernel
theorem dE_init_60 : decode mE_init.2.1 60 = .ok (.aload_n 0, 1) := by decide +kernel
theorem dE_init_61 : decode mE_init.2.1 61 = .ok (.iconst 0, 1) := by decide +kernel
theorem dE_init_62 : decode mE_init.2.1 62 = .ok (.putfield 33, 3) := by decide +kernel
theorem dE_init_65 : decode mE_init.2.1 65 = .ok (.return_, 1) := by decide +kernel
theorem dE_add_0 : decode mE_add.2.1 0 = .ok (.aload_n 0, 1) := by decide +kernel
theorem dE_add_1 : decode mE_add.2.1 1 = .ok (.getfield 9, 3) := by decide +kernel
theorem dE_add_4 : decode mE_add.2.1 4 = .ok (.aload_n 0, 1) := by decide +kernel
theorem dE_add_5 : decode mE_add.2.1 5 = .ok (.getfield 33, 3) := by decide +kernel
theorem dE_add_8 : decode mE_add.2.1 8 = .ok (.iload_n 1, 1) := by decide +kernel
theorem dE_add_9 : decode mE_add.2.1 9 = .ok (.bipush 10, 2) := by decide +kernel
theorem dE_add_11 : decode mE_add.2.1 11 = .ok (.idiv, 1) := by decide +kernel
theorem dE_add_12 : decode mE_add.2.1 12 = .ok (.iastore, 1) := by decide +kernel
theorem dE_add_13 : decode mE_add.2.1 13 = .ok (.aload_n 0, 1) := by decide +kernel
theorem dE_add_14 : decode mE_add.2.1 14 = .ok (.getfield 15, 3) := by decide +kernel
theorem dE_add_17 : decode mE_add.2.1 17 = .ok (.aload_n 0, 1) := by decide +kernel
theorem dE_add_18 : decode mE_add.2.1 18 = .ok (.getfield 33, 3) := by decide +kernel
theorem dE_add_21 : decode mE_add.2.1 21 = .ok (.iload_n 1, 1) := by decide +kernel
theorem dE_add_22 : decode mE_add.2.1 22 = .ok (.bipush 10, 2) := by decide +kernel
theorem dE_add_24 : decode mE_add.2.1 24 = .ok (.irem, 1) := by decide +kernel
theorem dE_add_25 : decode mE_add.2.1 25 = .ok (.iastore, 1) := by decide +kernel
theorem dE_add_26 : decode mE_add.2.1 26 = .ok (.aload_n 0, 1) := by decide +kernel
theorem dE_add_27 : decode mE_add.2.1 27 = .ok (.getfield 18, 3) := by decide +kernel
theorem dE_add_30 : decode mE_add.2.1 30 = .ok (.aload_n 0, 1) := by decide +kernel
theorem dE_add_31 : decode mE_add.2.1 31 = .ok (.getfield 33, 3) := by decide +kernel
theorem dE_add_34 : decode mE_add.2.1 34 = .ok (.iload_n 2, 1) := by decide +kernel
theorem dE_add_35 : decode mE_add.2.1 35 = .ok (.iastore, 1) := by decide +kernel
theorem dE_add_36 : decode mE_add.2.1 36 = .ok (.aload_n 0, 1) := by decide +kernel
theorem dE_add_37 : decode mE_add.2.1 37 = .ok (.getfield 21, 3) := by decide +kernel
theorem dE_add_40 : decode mE_add.2.1 40 = .ok (.aload_n 0, 1) := by decide +kernel
theorem dE_add_41 : decode mE_add.2.1 41 = .ok (.getfield 33, 3) := by decide +kernel
theorem dE_add_44 : decode mE_add.2.1 44 = .ok (.iload_n 3, 1) := by decide +kernel
theorem dE_add_45 : decode mE_add.2.1 45 = .ok (.iastore, 1) := by decide +kernel
theorem dE_add_46 : decode mE_add.2.1 46 = .ok (.aload_n 0, 1) := by decide +kernel
theorem dE_add_47 : decode mE_add.2.1 47 = .ok (.getfield 24, 3) := by decide +kernel
theorem dE_add_50 : decode mE_add.2.1 50 = .ok (.aload_n 0, 1) := by decide +kernel
theorem dE_add_51 : decode mE_add.2.1 51 = .ok (.getfield 33, 3) := by decide +kernel
theorem dE_add_54 : decode mE_add.2.1 54 = .ok (.iconst (-1), 1) := by decide +kernel
theorem dE_add_55 : decode mE_add.2.1 55 = .ok (.iastore, 1) := by decide +kernel
theorem dE_add_56 : decode mE_add.2.1 56 = .ok (.aload_n 0, 1) := by decide +kernel
theorem dE_add_57 : decode mE_add.2.1 57 = .ok (.getfield 27, 3) := by decide +kernel
theorem dE_add_60 : decode mE_add.2.1 60 = .ok (.aload_n 0, 1) := by decide +kernel
theorem dE_add_61 : decode mE_add.2.1 61 = .ok (.getfield 33, 3) := by decide +kernel
theorem dE_add_64 : decode mE_add.2.1 64 = .ok (.iload 4, 2) := by decide +kernel
theorem dE_add_66 : decode mE_add.2.1 66 = .ok (.iastore, 1) := by decide +kernel
theorem dE_add_67 : decode mE_add.2.1 67 = .ok (.aload_n 0, 1) := by decide +kernel
theorem dE_add_68 : decode mE_add.2.1 68 = .ok (.getfield 30, 3) := by decide +kernel
theorem dE_add_71 : decode mE_add.2.1 71 = .ok (.aload_n 0, 1) := by decide +kernel
theorem dE_add_72 : decode mE_add.2.1 72 = .ok (.getfield 33, 3) := by decide +kernel
theorem dE_add_75 : decode mE_add.2.1 75 = .ok (.iconst (-1), 1) := by decide +kernel
theorem dE_add_76 : decode mE_add.2.1 76 = .ok (.iastore, 1) := by decide +kernel
theorem dE_add_77 : decode mE_add.2.1 77 = .ok (.aload_n 0, 1) := by decide +kernel
theorem dE_add_78 : decode mE_add.2.1 78 = .ok (.dup, 1) := by decide +kernel
theorem dE_add_79 : decode mE_add.2.1 79 = .ok (.getfield 33, 3) := by decide +kernel
theorem dE_add_82 : decode mE_add.2.1 82 = .ok (.iconst 1, 1) := by decide +kernel
theorem dE_add_83 : decode mE_add.2.1 83 = .ok (.iadd, 1) := by decide +kernel
theorem dE_add_84 : decode mE_add.2.1 84 = .ok (.putfield 33, 3) := by decide +kernel
theorem dE_add_87 : decode mE_add.2.1 87 = .ok (.aload_n 0, 1) := by decide +kernel
theorem dE_add_88 : decode mE_add.2.1 88 = .ok (.getfield 33, 3) := by decide +kernel
theorem dE_add_91 : decode mE_add.2.1 91 = .ok (.iconst 1, 1) := by decide +kernel
theorem dE_add_92 : decode mE_add.2.1 92 = .ok (.isub, 1) := by decide +kernel
theorem dE_add_93 : decode mE_add.2.1 93 = .ok (.ireturn, 1) := by decide +kernel
theorem dE_has_0 : decode mE_has.2.1 0 = .ok (.iload_n 1, 1) := by decide +kernel
theorem dE_has_1 : decode mE_has.2.1 1 = .ok (.ifCond .lt 15, 3) := by decide +kernel
theorem dE_has_4 : decode mE_has.2.1 4 = .ok (.iload_n 1, 1) := by decide +kernel
theorem dE_has_5 : decode mE_has.2.1 5 = .ok (.aload_n 0, 1) := by decide +kernel
theorem dE_has_6 : decode mE_has.2.1 6 = .ok (.getfield 33, 3) := by decide +kernel
theorem dE_has_9 : decode mE_has.2.1 9 = .ok (.if_icmp .ge 7, 3) := by decide +kernel
theorem dE_has_12 : decode mE_has.2.1 12 = .ok (.iconst 1, 1) := by decide +kernel
theorem dE_has_13 : decode mE_has.2.1 13 = .ok (.goto 4, 3) := by decide +kernel
theorem dE_has_16 : decode mE_has.2.1 16 = .ok (.iconst 0, 1) := by decide +kernel
theorem dE_has_17 : decode mE_has.2.1 17 = .ok (.ireturn, 1) := by decide +kernel
theorem dE_knownOn_0 : decode mE_knownOn.2.1 0 = .ok (.iconst 0, 1) := by decide +kernel
theorem dE_knownOn_1 : decode mE_knownOn.2.1 1 = .ok (.istore_n 2, 1) := by decide +kernel
theorem dE_knownOn_2 : decode mE_knownOn.2.1 2 = .ok (.iconst 0, 1) := by decide +kernel
theorem dE_knownOn_3 : decode mE_knownOn.2.1 3 = .ok (.istore_n 3, 1) := by decide +kernel
theorem dE_knownOn_4 : decode mE_knownOn.2.1 4 = .ok (.iload_n 3, 1) := by decide +kernel
theorem dE_knownOn_5 : decode mE_knownOn.2.1 5 = .ok (.aload_n 0, 1) := by decide +kernel
theorem dE_knownOn_6 : decode mE_knownOn.2.1 6 = .ok (.getfield 33, 3) := by decide +kernel
theorem dE_knownOn_9 : decode mE_knownOn.2.1 9 = .ok (.if_icmp .ge 44, 3) := by decide +kernel
theorem dE_knownOn_12 : decode mE_knownOn.2.1 12 = .ok (.aload_n 0, 1) := by decide +kernel
theorem dE_knownOn_13 : decode mE_knownOn.2.1 13 = .ok (.getfield 27, 3) := by decide +kernel
theorem dE_knownOn_16 : decode mE_knownOn.2.1 16 = .ok (.iload_n 3, 1) := by decide +kernel
theorem dE_knownOn_17 : decode mE_knownOn.2.1 17 = .ok (.iaload, 1) := by decide +kernel
theorem dE_knownOn_18 : decode mE_knownOn.2.1 18 = .ok (.iload_n 1, 1) := by decide +kernel
theorem dE_knownOn_19 : decode mE_knownOn.2.1 19 = .ok (.if_icmp .gt 28, 3) := by decide +kernel
theorem dE_knownOn_22 : decode mE_knownOn.2.1 22 = .ok (.aload_n 0, 1) := by decide +kernel
theorem dE_knownOn_23 : decode mE_knownOn.2.1 23 = .ok (.getfield 30, 3) := by decide +kernel
theorem dE_knownOn_26 : decode mE_knownOn.2.1 26 = .ok (.iload_n 3, 1) := by decide +kernel
theorem dE_knownOn_27 : decode mE_knownOn.2.1 27 = .ok (.iaload, 1) := by decide +kernel
theorem dE_knownOn_28 : decode mE_knownOn.2.1 28 = .ok (.ifCond .lt 13, 3) := by decide +kernel
theorem dE_knownOn_31 : decode mE_knownOn.2.1 31 = .ok (.aload_n 0, 1) := by decide +kernel
theorem dE_knownOn_32 : decode mE_knownOn.2.1 32 = .ok (.getfield 30, 3) := by decide +kernel
theorem dE_knownOn_35 : decode mE_knownOn.2.1 35 = .ok (.iload_n 3, 1) := by decide +kernel
theorem dE_knownOn_36 : decode mE_knownOn.2.1 36 = .ok (.iaload, 1) := by decide +kernel
theorem dE_knownOn_37 : decode mE_knownOn.2.1 37 = .ok (.iload_n 1, 1) := by decide +kernel
theorem dE_knownOn_38 : decode mE_knownOn.2.1 38 = .ok (.if_icmp .le 9, 3) := by decide +kernel
theorem dE_knownOn_41 : decode mE_knownOn.2.1 41 = .ok (.iload_n 2, 1) := by decide +kernel
theorem dE_knownOn_42 : decode mE_knownOn.2.1 42 = .ok (.iconst 1, 1) := by decide +kernel
theorem dE_knownOn_43 : decode mE_knownOn.2.1 43 = .ok (.iload_n 3, 1) := by decide +kernel
theorem dE_knownOn_44 : decode mE_knownOn.2.1 44 = .ok (.ishl, 1) := by decide +kernel
theorem dE_knownOn_45 : decode mE_knownOn.2.1 45 = .ok (.ior, 1) := by decide +kernel
theorem dE_knownOn_46 : decode mE_knownOn.2.1 46 = .ok (.istore_n 2, 1) := by decide +kernel
theorem dE_knownOn_47 : decode mE_knownOn.2.1 47 = .ok (.iinc 3 1, 3) := by decide +kernel
theorem dE_knownOn_50 : decode mE_knownOn.2.1 50 = .ok (.goto (-46), 3) := by decide +kernel
theorem dE_knownOn_53 : decode mE_knownOn.2.1 53 = .ok (.iload_n 2, 1) := by decide +kernel
theorem dE_knownOn_54 : decode mE_knownOn.2.1 54 = .ok (.ireturn, 1) := by decide +kernel
theorem dE_hold_0 : decode mE_hold.2.1 0 = .ok (.iload_n 1, 1) := by decide +kernel
theorem dE_hold_1 : decode mE_hold.2.1 1 = .ok (.ifCond .lt 16, 3) := by decide +kernel
theorem dE_hold_4 : decode mE_hold.2.1 4 = .ok (.iload_n 1, 1) := by decide +kernel
theorem dE_hold_5 : decode mE_hold.2.1 5 = .ok (.aload_n 0, 1) := by decide +kernel
theorem dE_hold_6 : decode mE_hold.2.1 6 = .ok (.getfield 33, 3) := by decide +kernel
theorem dE_hold_9 : decode mE_hold.2.1 9 = .ok (.ishr, 1) := by decide +kernel
theorem dE_hold_10 : decode mE_hold.2.1 10 = .ok (.ifCond .ne 7, 3) := by decide +kernel
theorem dE_hold_13 : decode mE_hold.2.1 13 = .ok (.iconst 1, 1) := by decide +kernel
theorem dE_hold_14 : decode mE_hold.2.1 14 = .ok (.goto 4, 3) := by decide +kernel
theorem dE_hold_17 : decode mE_hold.2.1 17 = .ok (.iconst 0, 1) := by decide +kernel
theorem dE_hold_18 : decode mE_hold.2.1 18 = .ok (.ireturn, 1) := by decide +kernel
theorem dE_aheadOf_0 : decode mE_aheadOf.2.1 0 = .ok (.iconst 0, 1) := by decide +kernel
theorem dE_aheadOf_1 : decode mE_aheadOf.2.1 1 = .ok (.istore_n 3, 1) := by decide +kernel
theorem dE_aheadOf_2 : decode mE_aheadOf.2.1 2 = .ok (.iconst 0, 1) := by decide +kernel
theorem dE_aheadOf_3 : decode mE_aheadOf.2.1 3 = .ok (.istore 4, 2) := by decide +kernel
theorem dE_aheadOf_5 : decode mE_aheadOf.2.1 5 = .ok (.iload 4, 2) := by decide +kernel
theorem dE_aheadOf_7 : decode mE_aheadOf.2.1 7 = .ok (.aload_n 0, 1) := by decide +kernel
theorem dE_aheadOf_8 : decode mE_aheadOf.2.1 8 = .ok (.getfield 33, 3) := by decide +kernel
theorem dE_aheadOf_11 : decode mE_aheadOf.2.1 11 = .ok (.if_icmp .ge 75, 3) := by decide +kernel
theorem dE_aheadOf_14 : decode mE_aheadOf.2.1 14 = .ok (.aload_n 0, 1) := by decide +kernel
theorem dE_aheadOf_15 : decode mE_aheadOf.2.1 15 = .ok (.getfield 18, 3) := by decide +kernel
theorem dE_aheadOf_18 : decode mE_aheadOf.2.1 18 = .ok (.iload 4, 2) := by decide +kernel
theorem dE_aheadOf_20 : decode mE_aheadOf.2.1 20 = .ok (.iaload, 1) := by decide +kernel
theorem dE_aheadOf_21 : decode mE_aheadOf.2.1 21 = .ok (.aload_n 0, 1) := by decide +kernel
theorem dE_aheadOf_22 : decode mE_aheadOf.2.1 22 = .ok (.getfield 18, 3) := by decide +kernel
theorem dE_aheadOf_25 : decode mE_aheadOf.2.1 25 = .ok (.iload_n 1, 1) := by decide +kernel
theorem dE_aheadOf_26 : decode mE_aheadOf.2.1 26 = .ok (.iaload, 1) := by decide +kernel
theorem dE_aheadOf_27 : decode mE_aheadOf.2.1 27 = .ok (.if_icmp .lt 25, 3) := by decide +kernel
theorem dE_aheadOf_30 : decode mE_aheadOf.2.1 30 = .ok (.aload_n 0, 1) := by decide +kernel
theorem dE_aheadOf_31 : decode mE_aheadOf.2.1 31 = .ok (.getfield 18, 3) := by decide +kernel
theorem dE_aheadOf_34 : decode mE_aheadOf.2.1 34 = .ok (.iload 4, 2) := by decide +kernel
theorem dE_aheadOf_36 : decode mE_aheadOf.2.1 36 = .ok (.iaload, 1) := by decide +kernel
theorem dE_aheadOf_37 : decode mE_aheadOf.2.1 37 = .ok (.aload_n 0, 1) := by decide +kernel
theorem dE_aheadOf_38 : decode mE_aheadOf.2.1 38 = .ok (.getfield 18, 3) := by decide +kernel
theorem dE_aheadOf_41 : decode mE_aheadOf.2.1 41 = .ok (.iload_n 1, 1) := by decide +kernel
theorem dE_aheadOf_42 : decode mE_aheadOf.2.1 42 = .ok (.iaload, 1) := by decide +kernel
theorem dE_aheadOf_43 : decode mE_aheadOf.2.1 43 = .ok (.if_icmp .ne 13, 3) := by decide +kernel
theorem dE_aheadOf_46 : decode mE_aheadOf.2.1 46 = .ok (.iload 4, 2) := by decide +kernel
theorem dE_aheadOf_48 : decode mE_aheadOf.2.1 48 = .ok (.iload_n 1, 1) := by decide +kernel
theorem dE_aheadOf_49 : decode mE_aheadOf.2.1 49 = .ok (.if_icmp .ge 7, 3) := by decide +kernel
theorem dE_aheadOf_52 : decode mE_aheadOf.2.1 52 = .ok (.iconst 1, 1) := by decide +kernel
theorem dE_aheadOf_53 : decode mE_aheadOf.2.1 53 = .ok (.goto 4, 3) := by decide +kernel
theorem dE_aheadOf_56 : decode mE_aheadOf.2.1 56 = .ok (.iconst 0, 1) := by decide +kernel
theorem dE_aheadOf_57 : decode mE_aheadOf.2.1 57 = .ok (.istore 5, 2) := by decide +kernel
theorem dE_aheadOf_59 : decode mE_aheadOf.2.1 59 = .ok (.iload_n 2, 1) := by decide +kernel
theorem dE_aheadOf_60 : decode mE_aheadOf.2.1 60 = .ok (.iload 4, 2) := by decide +kernel
theorem dE_aheadOf_62 : decode mE_aheadOf.2.1 62 = .ok (.invokestatic 43, 3) := by decide +kernel
theorem dE_aheadOf_65 : decode mE_aheadOf.2.1 65 = .ok (.ifCond .eq 15, 3) := by decide +kernel
theorem dE_aheadOf_68 : decode mE_aheadOf.2.1 68 = .ok (.iload 5, 2) := by decide +kernel
theorem dE_aheadOf_70 : decode mE_aheadOf.2.1 70 = .ok (.ifCond .eq 10, 3) := by decide +kernel
theorem dE_aheadOf_73 : decode mE_aheadOf.2.1 73 = .ok (.iload_n 3, 1) := by decide +kernel
theorem dE_aheadOf_74 : decode mE_aheadOf.2.1 74 = .ok (.iconst 1, 1) := by decide +kernel
theorem dE_aheadOf_75 : decode mE_aheadOf.2.1 75 = .ok (.iload 4, 2) := by decide +kernel
theorem dE_aheadOf_77 : decode mE_aheadOf.2.1 77 = .ok (.ishl, 1) := by decide +kernel
theorem dE_aheadOf_78 : decode mE_aheadOf.2.1 78 = .ok (.ior, 1) := by decide +kernel
theorem dE_aheadOf_79 : decode mE_aheadOf.2.1 79 = .ok (.istore_n 3, 1) := by decide +kernel
theorem dE_aheadOf_80 : decode mE_aheadOf.2.1 80 = .ok (.iinc 4 1, 3) := by decide +kernel
theorem dE_aheadOf_83 : decode mE_aheadOf.2.1 83 = .ok (.goto (-78), 3) := by decide +kernel
theorem dE_aheadOf_86 : decode mE_aheadOf.2.1 86 = .ok (.iload_n 3, 1) := by decide +kernel
theorem dE_aheadOf_87 : decode mE_aheadOf.2.1 87 = .ok (.ireturn, 1) := by decide +kernel
theorem dE_ofCause_0 : decode mE_ofCause.2.1 0 = .ok (.iconst 0, 1) := by decide +kernel
theorem dE_ofCause_1 : decode mE_ofCause.2.1 1 = .ok (.istore_n 3, 1) := by decide +kernel
theorem dE_ofCause_2 : decode mE_ofCause.2.1 2 = .ok (.iconst 0, 1) := by decide +kernel
theorem dE_ofCause_3 : decode mE_ofCause.2.1 3 = .ok (.istore 4, 2) := by decide +kernel
theorem dE_ofCause_5 : decode mE_ofCause.2.1 5 = .ok (.iload 4, 2) := by decide +kernel
theorem dE_ofCause_7 : decode mE_ofCause.2.1 7 = .ok (.aload_n 0, 1) := by decide +kernel
theorem dE_ofCause_8 : decode mE_ofCause.2.1 8 = .ok (.getfield 33, 3) := by decide +kernel
theorem dE_ofCause_11 : decode mE_ofCause.2.1 11 = .ok (.if_icmp .ge 36, 3) := by decide +kernel
theorem dE_ofCause_14 : decode mE_ofCause.2.1 14 = .ok (.iload_n 1, 1) := by decide +kernel
theorem dE_ofCause_15 : decode mE_ofCause.2.1 15 = .ok (.iload 4, 2) := by decide +kernel
theorem dE_ofCause_17 : decode mE_ofCause.2.1 17 = .ok (.invokestatic 43, 3) := by decide +kernel
theorem dE_ofCause_20 : decode mE_ofCause.2.1 20 = .ok (.ifCond .eq 21, 3) := by decide +kernel
theorem dE_ofCause_23 : decode mE_ofCause.2.1 23 = .ok (.aload_n 0, 1) := by decide +kernel
theorem dE_ofCause_24 : decode mE_ofCause.2.1 24 = .ok (.getfield 15, 3) := by decide +kernel
theorem dE_ofCause_27 : decode mE_ofCause.2.1 27 = .ok (.iload 4, 2) := by decide +kernel
theorem dE_ofCause_29 : decode mE_ofCause.2.1 29 = .ok (.iaload, 1) := by decide +kernel
theorem dE_ofCause_30 : decode mE_ofCause.2.1 30 = .ok (.iload_n 2, 1) := by decide +kernel
theorem dE_ofCause_31 : decode mE_ofCause.2.1 31 = .ok (.if_icmp .ne 10, 3) := by decide +kernel
theorem dE_ofCause_34 : decode mE_ofCause.2.1 34 = .ok (.iload_n 3, 1) := by decide +kernel
theorem dE_ofCause_35 : decode mE_ofCause.2.1 35 = .ok (.iconst 1, 1) := by decide +kernel
theorem dE_ofCause_36 : decode mE_ofCause.2.1 36 = .ok (.iload 4, 2) := by decide +kernel
theorem dE_ofCause_38 : decode mE_ofCause.2.1 38 = .ok (.ishl, 1) := by decide +kernel
theorem dE_ofCause_39 : decode mE_ofCause.2.1 39 = .ok (.ior, 1) := by decide +kernel
theorem dE_ofCause_40 : decode mE_ofCause.2.1 40 = .ok (.istore_n 3, 1) := by decide +kernel
theorem dE_ofCause_41 : decode mE_ofCause.2.1 41 = .ok (.iinc 4 1, 3) := by decide +kernel
theorem dE_ofCause_44 : decode mE_ofCause.2.1 44 = .ok (.goto (-39), 3) := by decide +kernel
theorem dE_ofCause_47 : decode mE_ofCause.2.1 47 = .ok (.iload_n 3, 1) := by decide +kernel
theorem dE_ofCause_48 : decode mE_ofCause.2.1 48 = .ok (.ireturn, 1) := by decide +kernel
theorem dE_upTo_0 : decode mE_upTo.2.1 0 = .ok (.iconst 0, 1) := by decide +kernel
theorem dE_upTo_1 : decode mE_upTo.2.1 1 = .ok (.istore_n 3, 1) := by decide +kernel
theorem dE_upTo_2 : decode mE_upTo.2.1 2 = .ok (.iconst 0, 1) := by decide +kernel
theorem dE_upTo_3 : decode mE_upTo.2.1 3 = .ok (.istore 4, 2) := by decide +kernel
theorem dE_upTo_5 : decode mE_upTo.2.1 5 = .ok (.iload 4, 2) := by decide +kernel
theorem dE_upTo_7 : decode mE_upTo.2.1 7 = .ok (.aload_n 0, 1) := by decide +kernel
theorem dE_upTo_8 : decode mE_upTo.2.1 8 = .ok (.getfield 33, 3) := by decide +kernel
theorem dE_upTo_11 : decode mE_upTo.2.1 11 = .ok (.if_icmp .ge 36, 3) := by decide +kernel
theorem dE_upTo_14 : decode mE_upTo.2.1 14 = .ok (.iload_n 1, 1) := by decide +kernel
theorem dE_upTo_15 : decode mE_upTo.2.1 15 = .ok (.iload 4, 2) := by decide +kernel
theorem dE_upTo_17 : decode mE_upTo.2.1 17 = .ok (.invokestatic 43, 3) := by decide +kernel
theorem dE_upTo_20 : decode mE_upTo.2.1 20 = .ok (.ifCond .eq 21, 3) := by decide +kernel
theorem dE_upTo_23 : decode mE_upTo.2.1 23 = .ok (.aload_n 0, 1) := by decide +kernel
theorem dE_upTo_24 : decode mE_upTo.2.1 24 = .ok (.getfield 18, 3) := by decide +kernel
theorem dE_upTo_27 : decode mE_upTo.2.1 27 = .ok (.iload 4, 2) := by decide +kernel
theorem dE_upTo_29 : decode mE_upTo.2.1 29 = .ok (.iaload, 1) := by decide +kernel
theorem dE_upTo_30 : decode mE_upTo.2.1 30 = .ok (.iload_n 2, 1) := by decide +kernel
theorem dE_upTo_31 : decode mE_upTo.2.1 31 = .ok (.if_icmp .gt 10, 3) := by decide +kernel
theorem dE_upTo_34 : decode mE_upTo.2.1 34 = .ok (.iload_n 3, 1) := by decide +kernel
theorem dE_upTo_35 : decode mE_upTo.2.1 35 = .ok (.iconst 1, 1) := by decide +kernel
theorem dE_upTo_36 : decode mE_upTo.2.1 36 = .ok (.iload 4, 2) := by decide +kernel
theorem dE_upTo_38 : decode mE_upTo.2.1 38 = .ok (.ishl, 1) := by decide +kernel
theorem dE_upTo_39 : decode mE_upTo.2.1 39 = .ok (.ior, 1) := by decide +kernel
theorem dE_upTo_40 : decode mE_upTo.2.1 40 = .ok (.istore_n 3, 1) := by decide +kernel
theorem dE_upTo_41 : decode mE_upTo.2.1 41 = .ok (.iinc 4 1, 3) := by decide +kernel
theorem dE_upTo_44 : decode mE_upTo.2.1 44 = .ok (.goto (-39), 3) := by decide +kernel
theorem dE_upTo_47 : decode mE_upTo.2.1 47 = .ok (.iload_n 3, 1) := by decide +kernel
theorem dE_upTo_48 : decode mE_upTo.2.1 48 = .ok (.ireturn, 1) := by decide +kernel
theorem dE_daysTogether_0 : decode mE_daysTogether.2.1 0 = .ok (.iconst 0, 1) := by decide +kernel
theorem dE_daysTogether_1 : decode mE_daysTogether.2.1 1 = .ok (.istore_n 2, 1) := by decide +kernel
theorem dE_daysTogether_2 : decode mE_daysTogether.2.1 2 = .ok (.iconst 0, 1) := by decide +kernel
theorem dE_daysTogether_3 : decode mE_daysTogether.2.1 3 = .ok (.istore_n 3, 1) := by decide +kernel
theorem dE_daysTogether_4 : decode mE_daysTogether.2.1 4 = .ok (.iload_n 3, 1) := by decide +kernel
theorem dE_daysTogether_5 : decode mE_daysTogether.2.1 5 = .ok (.aload_n 0, 1) := by decide +kernel
theorem dE_daysTogether_6 : decode mE_daysTogether.2.1 6 = .ok (.getfield 33, 3) := by decide +kernel
theorem dE_daysTogether_9 : decode mE_daysTogether.2.1 9 = .ok (.if_icmp .ge 30, 3) := by decide +kernel
theorem dE_daysTogether_12 : decode mE_daysTogether.2.1 12 = .ok (.iload_n 2, 1) := by decide +kernel
theorem dE_daysTogether_13 : decode mE_daysTogether.2.1 13 = .ok (.iload_n 1, 1) := by decide +kernel
theorem dE_daysTogether_14 : decode mE_daysTogether.2.1 14 = .ok (.iload_n 3, 1) := by decide +kernel
theorem dE_daysTogether_15 : decode mE_daysTogether.2.1 15 = .ok (.invokestatic 43, 3) := by decide +kernel
theorem dE_daysTogether_18 : decode mE_daysTogether.2.1 18 = .ok (.ifCond .eq 12, 3) := by decide +kernel
theorem dE_daysTogether_21 : decode mE_daysTogether.2.1 21 = .ok (.aload_n 0, 1) := by decide +kernel
theorem dE_daysTogether_22 : decode mE_daysTogether.2.1 22 = .ok (.getfield 21, 3) := by decide +kernel
theorem dE_daysTogether_25 : decode mE_daysTogether.2.1 25 = .ok (.iload_n 3, 1) := by decide +kernel
theorem dE_daysTogether_26 : decode mE_daysTogether.2.1 26 = .ok (.iaload, 1) := by decide +kernel
theorem dE_daysTogether_27 : decode mE_daysTogether.2.1 27 = .ok (.goto 4, 3) := by decide +kernel
theorem dE_daysTogether_30 : decode mE_daysTogether.2.1 30 = .ok (.iconst 0, 1) := by decide +kernel
theorem dE_daysTogether_31 : decode mE_daysTogether.2.1 31 = .ok (.iadd, 1) := by decide +kernel
theorem dE_daysTogether_32 : decode mE_daysTogether.2.1 32 = .ok (.istore_n 2, 1) := by decide +kernel
theorem dE_daysTogether_33 : decode mE_daysTogether.2.1 33 = .ok (.iinc 3 1, 3) := by decide +kernel
theorem dE_daysTogether_36 : decode mE_daysTogether.2.1 36 = .ok (.goto (-32), 3) := by decide +kernel
theorem dE_daysTogether_39 : decode mE_daysTogether.2.1 39 = .ok (.iload_n 2, 1) := by decide +kernel
theorem dE_daysTogether_40 : decode mE_daysTogether.2.1 40 = .ok (.ireturn, 1) := by decide +kernel
theorem dE_noticeAfter_0 : decode mE_noticeAfter.2.1 0 = .ok (.aload_n 0, 1) := by decide +kernel
theorem dE_noticeAfter_1 : decode mE_noticeAfter.2.1 1 = .ok (.getfield 24, 3) := by decide +kernel
theorem dE_noticeAfter_4 : decode mE_noticeAfter.2.1 4 = .ok (.iload_n 1, 1) := by decide +kernel
theorem dE_noticeAfter_5 : decode mE_noticeAfter.2.1 5 = .ok (.iaload, 1) := by decide +kernel
theorem dE_noticeAfter_6 : decode mE_noticeAfter.2.1 6 = .ok (.ifCond .ge 9, 3) := by decide +kernel
theorem dE_noticeAfter_9 : decode mE_noticeAfter.2.1 9 = .ok (.sipush 999, 3) := by decide +kernel
theorem dE_noticeAfter_12 : decode mE_noticeAfter.2.1 12 = .ok (.goto 16, 3) := by decide +kernel
theorem dE_noticeAfter_15 : decode mE_noticeAfter.2.1 15 = .ok (.aload_n 0, 1) := by decide +kernel
theorem dE_noticeAfter_16 : decode mE_noticeAfter.2.1 16 = .ok (.getfield 24, 3) := by decide +kernel
theorem dE_noticeAfter_19 : decode mE_noticeAfter.2.1 19 = .ok (.iload_n 1, 1) := by decide +kernel
theorem dE_noticeAfter_20 : decode mE_noticeAfter.2.1 20 = .ok (.iaload, 1) := by decide +kernel
theorem dE_noticeAfter_21 : decode mE_noticeAfter.2.1 21 = .ok (.aload_n 0, 1) := by decide +kernel
theorem dE_noticeAfter_22 : decode mE_noticeAfter.2.1 22 = .ok (.getfield 18, 3) := by decide +kernel
theorem dE_noticeAfter_25 : decode mE_noticeAfter.2.1 25 = .ok (.iload_n 1, 1) := by decide +kernel
theorem dE_noticeAfter_26 : decode mE_noticeAfter.2.1 26 = .ok (.iaload, 1) := by decide +kernel
theorem dE_noticeAfter_27 : decode mE_noticeAfter.2.1 27 = .ok (.isub, 1) := by decide +kernel
theorem dE_noticeAfter_28 : decode mE_noticeAfter.2.1 28 = .ok (.ireturn, 1) := by decide +kernel
theorem dE_meetsOther_0 : decode mE_meetsOther.2.1 0 = .ok (.iconst 0, 1) := by decide +kernel
theorem dE_meetsOther_1 : decode mE_meetsOther.2.1 1 = .ok (.istore_n 3, 1) := by decide +kernel
theorem dE_meetsOther_2 : decode mE_meetsOther.2.1 2 = .ok (.iload_n 3, 1) := by decide +kernel
theorem dE_meetsOther_3 : decode mE_meetsOther.2.1 3 = .ok (.aload_n 0, 1) := by decide +kernel
theorem dE_meetsOther_4 : decode mE_meetsOther.2.1 4 = .ok (.getfield 33, 3) := by decide +kernel
theorem dE_meetsOther_7 : decode mE_meetsOther.2.1 7 = .ok (.if_icmp .ge 90, 3) := by decide +kernel
theorem dE_meetsOther_10 : decode mE_meetsOther.2.1 10 = .ok (.aload_n 0, 1) := by decide +kernel
theorem dE_meetsOther_11 : decode mE_meetsOther.2.1 11 = .ok (.getfield 18, 3) := by decide +kernel
theorem dE_meetsOther_14 : decode mE_meetsOther.2.1 14 = .ok (.iload_n 3, 1) := by decide +kernel
theorem dE_meetsOther_15 : decode mE_meetsOther.2.1 15 = .ok (.iaload, 1) := by decide +kernel
theorem dE_meetsOther_16 : decode mE_meetsOther.2.1 16 = .ok (.aload_n 0, 1) := by decide +kernel
theorem dE_meetsOther_17 : decode mE_meetsOther.2.1 17 = .ok (.getfield 18, 3) := by decide +kernel
theorem dE_meetsOther_20 : decode mE_meetsOther.2.1 20 = .ok (.iload_n 1, 1) := by decide +kernel
theorem dE_meetsOther_21 : decode mE_meetsOther.2.1 21 = .ok (.iaload, 1) := by decide +kernel
theorem dE_meetsOther_22 : decode mE_meetsOther.2.1 22 = .ok (.aload_n 0, 1) := by decide +kernel
theorem dE_meetsOther_23 : decode mE_meetsOther.2.1 23 = .ok (.getfield 21, 3) := by decide +kernel
theorem dE_meetsOther_26 : decode mE_meetsOther.2.1 26 = .ok (.iload_n 1, 1) := by decide +kernel
theorem dE_meetsOther_27 : decode mE_meetsOther.2.1 27 = .ok (.iaload, 1) := by decide +kernel
theorem dE_meetsOther_28 : decode mE_meetsOther.2.1 28 = .ok (.iadd, 1) := by decide +kernel
theorem dE_meetsOther_29 : decode mE_meetsOther.2.1 29 = .ok (.if_icmp .ge 29, 3) := by decide +kernel
theorem dE_meetsOther_32 : decode mE_meetsOther.2.1 32 = .ok (.aload_n 0, 1) := by decide +kernel
theorem dE_meetsOther_33 : decode mE_meetsOther.2.1 33 = .ok (.getfield 18, 3) := by decide +kernel
theorem dE_meetsOther_36 : decode mE_meetsOther.2.1 36 = .ok (.iload_n 1, 1) := by decide +kernel
theorem dE_meetsOther_37 : decode mE_meetsOther.2.1 37 = .ok (.iaload, 1) := by decide +kernel
theorem dE_meetsOther_38 : decode mE_meetsOther.2.1 38 = .ok (.aload_n 0, 1) := by decide +kernel
theorem dE_meetsOther_39 : decode mE_meetsOther.2.1 39 = .ok (.getfield 18, 3) := by decide +kernel
theorem dE_meetsOther_42 : decode mE_meetsOther.2.1 42 = .ok (.iload_n 3, 1) := by decide +kernel
theorem dE_meetsOther_43 : decode mE_meetsOther.2.1 43 = .ok (.iaload, 1) := by decide +kernel
theorem dE_meetsOther_44 : decode mE_meetsOther.2.1 44 = .ok (.aload_n 0, 1) := by decide +kernel
theorem dE_meetsOther_45 : decode mE_meetsOther.2.1 45 = .ok (.getfield 21, 3) := by decide +kernel
theorem dE_meetsOther_48 : decode mE_meetsOther.2.1 48 = .ok (.iload_n 3, 1) := by decide +kernel
theorem dE_meetsOther_49 : decode mE_meetsOther.2.1 49 = .ok (.iaload, 1) := by decide +kernel
theorem dE_meetsOther_50 : decode mE_meetsOther.2.1 50 = .ok (.iadd, 1) := by decide +kernel
theorem dE_meetsOther_51 : decode mE_meetsOther.2.1 51 = .ok (.if_icmp .ge 7, 3) := by decide +kernel
theorem dE_meetsOther_54 : decode mE_meetsOther.2.1 54 = .ok (.iconst 1, 1) := by decide +kernel
theorem dE_meetsOther_55 : decode mE_meetsOther.2.1 55 = .ok (.goto 4, 3) := by decide +kernel
theorem dE_meetsOther_58 : decode mE_meetsOther.2.1 58 = .ok (.iconst 0, 1) := by decide +kernel
theorem dE_meetsOther_59 : decode mE_meetsOther.2.1 59 = .ok (.istore 4, 2) := by decide +kernel
theorem dE_meetsOther_61 : decode mE_meetsOther.2.1 61 = .ok (.iload_n 2, 1) := by decide +kernel
theorem dE_meetsOther_62 : decode mE_meetsOther.2.1 62 = .ok (.iload_n 3, 1) := by decide +kernel
theorem dE_meetsOther_63 : decode mE_meetsOther.2.1 63 = .ok (.invokestatic 43, 3) := by decide +kernel
theorem dE_meetsOther_66 : decode mE_meetsOther.2.1 66 = .ok (.ifCond .eq 25, 3) := by decide +kernel
theorem dE_meetsOther_69 : decode mE_meetsOther.2.1 69 = .ok (.aload_n 0, 1) := by decide +kernel
theorem dE_meetsOther_70 : decode mE_meetsOther.2.1 70 = .ok (.getfield 15, 3) := by decide +kernel
theorem dE_meetsOther_73 : decode mE_meetsOther.2.1 73 = .ok (.iload_n 3, 1) := by decide +kernel
theorem dE_meetsOther_74 : decode mE_meetsOther.2.1 74 = .ok (.iaload, 1) := by decide +kernel
theorem dE_meetsOther_75 : decode mE_meetsOther.2.1 75 = .ok (.aload_n 0, 1) := by decide +kernel
theorem dE_meetsOther_76 : decode mE_meetsOther.2.1 76 = .ok (.getfield 15, 3) := by decide +kernel
theorem dE_meetsOther_79 : decode mE_meetsOther.2.1 79 = .ok (.iload_n 1, 1) := by decide +kernel
theorem dE_meetsOther_80 : decode mE_meetsOther.2.1 80 = .ok (.iaload, 1) := by decide +kernel
theorem dE_meetsOther_81 : decode mE_meetsOther.2.1 81 = .ok (.if_icmp .eq 10, 3) := by decide +kernel
theorem dE_meetsOther_84 : decode mE_meetsOther.2.1 84 = .ok (.iload 4, 2) := by decide +kernel
theorem dE_meetsOther_86 : decode mE_meetsOther.2.1 86 = .ok (.ifCond .eq 5, 3) := by decide +kernel
theorem dE_meetsOther_89 : decode mE_meetsOther.2.1 89 = .ok (.iconst 1, 1) := by decide +kernel
theorem dE_meetsOther_90 : decode mE_meetsOther.2.1 90 = .ok (.ireturn, 1) := by decide +kernel
theorem dE_meetsOther_91 : decode mE_meetsOther.2.1 91 = .ok (.iinc 3 1, 3) := by decide +kernel
theorem dE_meetsOther_94 : decode mE_meetsOther.2.1 94 = .ok (.goto (-92), 3) := by decide +kernel
theorem dE_meetsOther_97 : decode mE_meetsOther.2.1 97 = .ok (.iconst 0, 1) := by decide +kernel
theorem dE_meetsOther_98 : decode mE_meetsOther.2.1 98 = .ok (.ireturn, 1) := by decide +kernel
theorem dE_copy_0 : decode mE_copy.2.1 0 = .ok (.aload_n 1, 1) := by decide +kernel
theorem dE_copy_1 : decode mE_copy.2.1 1 = .ok (.getfield 9, 3) := by decide +kernel
theorem dE_copy_4 : decode mE_copy.2.1 4 = .ok (.iconst 0, 1) := by decide +kernel
theorem dE_copy_5 : decode mE_copy.2.1 5 = .ok (.aload_n 0, 1) := by decide +kernel
theorem dE_copy_6 : decode mE_copy.2.1 6 = .ok (.getfield 9, 3) := by decide +kernel
theorem dE_copy_9 : decode mE_copy.2.1 9 = .ok (.iconst 0, 1) := by decide +kernel
theorem dE_copy_10 : decode mE_copy.2.1 10 = .ok (.bipush 20, 2) := by decide +kernel
theorem dE_copy_12 : decode mE_copy.2.1 12 = .ok (.invokestatic 37, 3) := by decide +kernel
theorem dE_copy_15 : decode mE_copy.2.1 15 = .ok (.aload_n 1, 1) := by decide +kernel
theorem dE_copy_16 : decode mE_copy.2.1 16 = .ok (.getfield 15, 3) := by decide +kernel
theorem dE_copy_19 : decode mE_copy.2.1 19 = .ok (.iconst 0, 1) := by decide +kernel
theorem dE_copy_20 : decode mE_copy.2.1 20 = .ok (.aload_n 0, 1) := by decide +kernel
theorem dE_copy_21 : decode mE_copy.2.1 21 = .ok (.getfield 15, 3) := by decide +kernel
theorem dE_copy_24 : decode mE_copy.2.1 24 = .ok (.iconst 0, 1) := by decide +kernel
theorem dE_copy_25 : decode mE_copy.2.1 25 = .ok (.bipush 20, 2) := by decide +kernel
theorem dE_copy_27 : decode mE_copy.2.1 27 = .ok (.invokestatic 37, 3) := by decide +kernel
theorem dE_copy_30 : decode mE_copy.2.1 30 = .ok (.aload_n 1, 1) := by decide +kernel
theorem dE_copy_31 : decode mE_copy.2.1 31 = .ok (.getfield 18, 3) := by decide +kernel
theorem dE_copy_34 : decode mE_copy.2.1 34 = .ok (.iconst 0, 1) := by decide +kernel
theorem dE_copy_35 : decode mE_copy.2.1 35 = .ok (.aload_n 0, 1) := by decide +kernel
theorem dE_copy_36 : decode mE_copy.2.1 36 = .ok (.getfield 18, 3) := by decide +kernel
theorem dE_copy_39 : decode mE_copy.2.1 39 = .ok (.iconst 0, 1) := by decide +kernel
theorem dE_copy_40 : decode mE_copy.2.1 40 = .ok (.bipush 20, 2) := by decide +kernel
theorem dE_copy_42 : decode mE_copy.2.1 42 = .ok (.invokestatic 37, 3) := by decide +kernel
theorem dE_copy_45 : decode mE_copy.2.1 45 = .ok (.aload_n 1, 1) := by decide +kernel
theorem dE_copy_46 : decode mE_copy.2.1 46 = .ok (.getfield 21, 3) := by decide +kernel
theorem dE_copy_49 : decode mE_copy.2.1 49 = .ok (.iconst 0, 1) := by decide +kernel
theorem dE_copy_50 : decode mE_copy.2.1 50 = .ok (.aload_n 0, 1) := by decide +kernel
theorem dE_copy_51 : decode mE_copy.2.1 51 = .ok (.getfield 21, 3) := by decide +kernel
theorem dE_copy_54 : decode mE_copy.2.1 54 = .ok (.iconst 0, 1) := by decide +kernel
theorem dE_copy_55 : decode mE_copy.2.1 55 = .ok (.bipush 20, 2) := by decide +kernel
theorem dE_copy_57 : decode mE_copy.2.1 57 = .ok (.invokestatic 37, 3) := by decide +kernel
theorem dE_copy_60 : decode mE_copy.2.1 60 = .ok (.aload_n 1, 1) := by decide +kernel
theorem dE_copy_61 : decode mE_copy.2.1 61 = .ok (.getfield 24, 3) := by decide +kernel
theorem dE_copy_64 : decode mE_copy.2.1 64 = .ok (.iconst 0, 1) := by decide +kernel
theorem dE_copy_65 : decode mE_copy.2.1 65 = .ok (.aload_n 0, 1) := by decide +kernel
theorem dE_copy_66 : decode mE_copy.2.1 66 = .ok (.getfield 24, 3) := by decide +kernel
theorem dE_copy_69 : decode mE_copy.2.1 69 = .ok (.iconst 0, 1) := by decide +kernel
theorem dE_copy_70 : decode mE_copy.2.1 70 = .ok (.bipush 20, 2) := by decide +kernel
theorem dE_copy_72 : decode mE_copy.2.1 72 = .ok (.invokestatic 37, 3) := by decide +kernel
theorem dE_copy_75 : decode mE_copy.2.1 75 = .ok (.aload_n 1, 1) := by decide +kernel
theorem dE_copy_76 : decode mE_copy.2.1 76 = .ok (.getfield 27, 3) := by decide +kernel
theorem dE_copy_79 : decode mE_copy.2.1 79 = .ok (.iconst 0, 1) := by decide +kernel
theorem dE_copy_80 : decode mE_copy.2.1 80 = .ok (.aload_n 0, 1) := by decide +kernel
theorem dE_copy_81 : decode mE_copy.2.1 81 = .ok (.getfield 27, 3) := by decide +kernel
theorem dE_copy_84 : decode mE_copy.2.1 84 = .ok (.iconst 0, 1) := by decide +kernel
theorem dE_copy_85 : decode mE_copy.2.1 85 = .ok (.bipush 20, 2) := by decide +kernel
theorem dE_copy_87 : decode mE_copy.2.1 87 = .ok (.invokestatic 37, 3) := by decide +kernel
theorem dE_copy_90 : decode mE_copy.2.1 90 = .ok (.aload_n 1, 1) := by decide +kernel
theorem dE_copy_91 : decode mE_copy.2.1 91 = .ok (.getfield 30, 3) := by decide +kernel
theorem dE_copy_94 : decode mE_copy.2.1 94 = .ok (.iconst 0, 1) := by decide +kernel
theorem dE_copy_95 : decode mE_copy.2.1 95 = .ok (.aload_n 0, 1) := by decide +kernel
theorem dE_copy_96 : decode mE_copy.2.1 96 = .ok (.getfield 30, 3) := by decide +kernel
theorem dE_copy_99 : decode mE_copy.2.1 99 = .ok (.iconst 0, 1) := by decide +kernel
theorem dE_copy_100 : decode mE_copy.2.1 100 = .ok (.bipush 20, 2) := by decide +kernel
theorem dE_copy_102 : decode mE_copy.2.1 102 = .ok (.invokestatic 37, 3) := by decide +kernel
theorem dE_copy_105 : decode mE_copy.2.1 105 = .ok (.aload_n 0, 1) := by decide +kernel
theorem dE_copy_106 : decode mE_copy.2.1 106 = .ok (.aload_n 1, 1) := by decide +kernel
theorem dE_copy_107 : decode mE_copy.2.1 107 = .ok (.getfield 33, 3) := by decide +kernel
theorem dE_copy_110 : decode mE_copy.2.1 110 = .ok (.putfield 33, 3) := by decide +kernel
theorem dE_copy_113 : decode mE_copy.2.1 113 = .ok (.return_, 1) := by decide +kernel
theorem dH_init_0 : decode mH_init.2.1 0 = .ok (.aload_n 0, 1) := by decide +kernel
theorem dH_init_1 : decode mH_init.2.1 1 = .ok (.invokespecial 3, 3) := by decide +kernel
theorem dH_init_4 : decode mH_init.2.1 4 = .ok (.aload_n 0, 1) := by decide +kernel
theorem dH_init_5 : decode mH_init.2.1 5 = .ok (.iconst 5, 1) := by decide +kernel
theorem dH_init_6 : decode mH_init.2.1 6 = .ok (.newarray .int, 2) := by decide +kernel
theorem dH_init_8 : decode mH_init.2.1 8 = .ok (.putfield 9, 3) := by decide +kernel
theorem dH_init_11 : decode mH_init.2.1 11 = .ok (.aload_n 0, 1) := by decide +kernel
theorem dH_init_12 : decode mH_init.2.1 12 = .ok (.iconst 5, 1) := by decide +kernel
theorem dH_init_13 : decode mH_init.2.1 13 = .ok (.newarray .int, 2) := by decide +kernel
theorem dH_init_15 : decode mH_init.2.1 15 = .ok (.putfield 15, 3) := by decide +kernel
theorem dH_init_18 : decode mH_init.2.1 18 = .ok (.aload_n 0, 1) := by decide +kernel
theorem dH_init_19 : decode mH_init.2.1 19 = .ok (.iconst 5, 1) := by decide +kernel
theorem dH_init_20 : decode mH_init.2.1 20 = .ok (.newarray .int, 2) := by decide +kernel
theorem dH_init_22 : decode mH_init.2.1 22 = .ok (.putfield 18, 3) := by decide +kernel
theorem dH_init_25 : decode mH_init.2.1 25 = .ok (.aload_n 0, 1) := by decide +kernel
theorem dH_init_26 : decode mH_init.2.1 26 = .ok (.iconst 0, 1) := by decide +kernel
theorem dH_init_27 : decode mH_init.2.1 27 = .ok (.putfield 21, 3) := by decide +kernel
theorem dH_init_30 : decode mH_init.2.1 30 = .ok (.return_, 1) := by decide +kernel
theorem dH_mostOf_0 : decode mH_mostOf.2.1 0 = .ok (.iconst 0, 1) := by decide +kernel
theorem dH_mostOf_1 : decode mH_mostOf.2.1 1 = .ok (.istore_n 2, 1) := by decide +kernel
theorem dH_mostOf_2 : decode mH_mostOf.2.1 2 = .ok (.iload_n 2, 1) := by decide +kernel
theorem dH_mostOf_3 : decode mH_mostOf.2.1 3 = .ok (.aload_n 0, 1) := by decide +kernel
theorem dH_mostOf_4 : decode mH_mostOf.2.1 4 = .ok (.getfield 21, 3) := by decide +kernel
theorem dH_mostOf_7 : decode mH_mostOf.2.1 7 = .ok (.if_icmp .ge 26, 3) := by decide +kernel
theorem dH_mostOf_10 : decode mH_mostOf.2.1 10 = .ok (.aload_n 0, 1) := by decide +kernel
theorem dH_mostOf_11 : decode mH_mostOf.2.1 11 = .ok (.getfield 9, 3) := by decide +kernel
theorem dH_mostOf_14 : decode mH_mostOf.2.1 14 = .ok (.iload_n 2, 1) := by decide +kernel
theorem dH_mostOf_15 : decode mH_mostOf.2.1 15 = .ok (.iaload, 1) := by decide +kernel
theorem dH_mostOf_16 : decode mH_mostOf.2.1 16 = .ok (.iload_n 1, 1) := by decide +kernel
theorem dH_mostOf_17 : decode mH_mostOf.2.1 17 = .ok (.if_icmp .ne 10, 3) := by decide +kernel
theorem dH_mostOf_20 : decode mH_mostOf.2.1 20 = .ok (.aload_n 0, 1) := by decide +kernel
theorem dH_mostOf_21 : decode mH_mostOf.2.1 21 = .ok (.getfield 15, 3) := by decide +kernel
theorem dH_mostOf_24 : decode mH_mostOf.2.1 24 = .ok (.iload_n 2, 1) := by decide +kernel
theorem dH_mostOf_25 : decode mH_mostOf.2.1 25 = .ok (.iaload, 1) := by decide +kernel
theorem dH_mostOf_26 : decode mH_mostOf.2.1 26 = .ok (.ireturn, 1) := by decide +kernel
theorem dH_mostOf_27 : decode mH_mostOf.2.1 27 = .ok (.iinc 2 1, 3) := by decide +kernel
theorem dH_mostOf_30 : decode mH_mostOf.2.1 30 = .ok (.goto (-28), 3) := by decide +kernel
theorem dH_mostOf_33 : decode mH_mostOf.2.1 33 = .ok (.iconst 0, 1) := by decide +kernel
theorem dH_mostOf_34 : decode mH_mostOf.2.1 34 = .ok (.ireturn, 1) := by decide +kernel
theorem dH_add_0 : decode mH_add.2.1 0 = .ok (.aload_n 0, 1) := by decide +kernel
theorem dH_add_1 : decode mH_add.2.1 1 = .ok (.getfield 9, 3) := by decide +kernel
theorem dH_add_4 : decode mH_add.2.1 4 = .ok (.aload_n 0, 1) := by decide +kernel
theorem dH_add_5 : decode mH_add.2.1 5 = .ok (.getfield 21, 3) := by decide +kernel
theorem dH_add_8 : decode mH_add.2.1 8 = .ok (.iload_n 1, 1) := by decide +kernel
theorem dH_add_9 : decode mH_add.2.1 9 = .ok (.iastore, 1) := by decide +kernel
theorem dH_add_10 : decode mH_add.2.1 10 = .ok (.aload_n 0, 1) := by decide +kernel
theorem dH_add_11 : decode mH_add.2.1 11 = .ok (.getfield 15, 3) := by decide +kernel
theorem dH_add_14 : decode mH_add.2.1 14 = .ok (.aload_n 0, 1) := by decide +kernel
theorem dH_add_15 : decode mH_add.2.1 15 = .ok (.getfield 21, 3) := by decide +kernel
theorem dH_add_18 : decode mH_add.2.1 18 = .ok (.iload_n 2, 1) := by decide +kernel
theorem dH_add_19 : decode mH_add.2.1 19 = .ok (.iastore, 1) := by decide +kernel
theorem dH_add_20 : decode mH_add.2.1 20 = .ok (.aload_n 0, 1) := by decide +kernel
theorem dH_add_21 : decode mH_add.2.1 21 = .ok (.getfield 18, 3) := by decide +kernel
theorem dH_add_24 : decode mH_add.2.1 24 = .ok (.aload_n 0, 1) := by decide +kernel
theorem dH_add_25 : decode mH_add.2.1 25 = .ok (.getfield 21, 3) := by decide +kernel
theorem dH_add_28 : decode mH_add.2.1 28 = .ok (.iload_n 3, 1) := by decide +kernel
theorem dH_add_29 : decode mH_add.2.1 29 = .ok (.iastore, 1) := by decide +kernel
theorem dH_add_30 : decode mH_add.2.1 30 = .ok (.aload_n 0, 1) := by decide +kernel
theorem dH_add_31 : decode mH_add.2.1 31 = .ok (.dup, 1) := by decide +kernel
theorem dH_add_32 : decode mH_add.2.1 32 = .ok (.getfield 21, 3) := by decide +kernel
theorem dH_add_35 : decode mH_add.2.1 35 = .ok (.iconst 1, 1) := by decide +kernel
theorem dH_add_36 : decode mH_add.2.1 36 = .ok (.iadd, 1) := by decide +kernel
theorem dH_add_37 : decode mH_add.2.1 37 = .ok (.putfield 21, 3) := by decide +kernel
theorem dH_add_40 : decode mH_add.2.1 40 = .ok (.aload_n 0, 1) := by decide +kernel
theorem dH_add_41 : decode mH_add.2.1 41 = .ok (.getfield 21, 3) := by decide +kernel
theorem dH_add_44 : decode mH_add.2.1 44 = .ok (.ireturn, 1) := by decide +kernel
theorem dH_sumOf_0 : decode mH_sumOf.2.1 0 = .ok (.iconst 0, 1) := by decide +kernel
theorem dH_sumOf_1 : decode mH_sumOf.2.1 1 = .ok (.istore_n 2, 1) := by decide +kernel
theorem dH_sumOf_2 : decode mH_sumOf.2.1 2 = .ok (.iconst 0, 1) := by decide +kernel
theorem dH_sumOf_3 : decode mH_sumOf.2.1 3 = .ok (.istore_n 3, 1) := by decide +kernel
theorem dH_sumOf_4 : decode mH_sumOf.2.1 4 = .ok (.iload_n 3, 1) := by decide +kernel
theorem dH_sumOf_5 : decode mH_sumOf.2.1 5 = .ok (.aload_n 0, 1) := by decide +kernel
theorem dH_sumOf_6 : decode mH_sumOf.2.1 6 = .ok (.getfield 21, 3) := by decide +kernel
theorem dH_sumOf_9 : decode mH_sumOf.2.1 9 = .ok (.if_icmp .ge 22, 3) := by decide +kernel
theorem dH_sumOf_12 : decode mH_sumOf.2.1 12 = .ok (.iload_n 2, 1) := by decide +kernel
theorem dH_sumOf_13 : decode mH_sumOf.2.1 13 = .ok (.aload_n 1, 1) := by decide +kernel
theorem dH_sumOf_14 : decode mH_sumOf.2.1 14 = .ok (.iload_n 3, 1) := by decide +kernel
theorem dH_sumOf_15 : decode mH_sumOf.2.1 15 = .ok (.iaload, 1) := by decide +kernel
theorem dH_sumOf_16 : decode mH_sumOf.2.1 16 = .ok (.aload_n 0, 1) := by decide +kernel
theorem dH_sumOf_17 : decode mH_sumOf.2.1 17 = .ok (.getfield 18, 3) := by decide +kernel
theorem dH_sumOf_20 : decode mH_sumOf.2.1 20 = .ok (.iload_n 3, 1) := by decide +kernel
theorem dH_sumOf_21 : decode mH_sumOf.2.1 21 = .ok (.iaload, 1) := by decide +kernel
theorem dH_sumOf_22 : decode mH_sumOf.2.1 22 = .ok (.imul, 1) := by decide +kernel
theorem dH_sumOf_23 : decode mH_sumOf.2.1 23 = .ok (.iadd, 1) := by decide +kernel
theorem dH_sumOf_24 : decode mH_sumOf.2.1 24 = .ok (.istore_n 2, 1) := by decide +kernel
theorem dH_sumOf_25 : decode mH_sumOf.2.1 25 = .ok (.iinc 3 1, 3) := by decide +kernel
theorem dH_sumOf_28 : decode mH_sumOf.2.1 28 = .ok (.goto (-24), 3) := by decide +kernel
theorem dH_sumOf_31 : decode mH_sumOf.2.1 31 = .ok (.iload_n 2, 1) := by decide +kernel
theorem dH_sumOf_32 : decode mH_sumOf.2.1 32 = .ok (.ireturn, 1) := by decide +kernel
theorem dH_next_0 : decode mH_next.2.1 0 = .ok (.aload_n 0, 1) := by decide +kernel
theorem dH_next_1 : decode mH_next.2.1 1 = .ok (.getfield 21, 3) := by decide +kernel
theorem dH_next_4 : decode mH_next.2.1 4 = .ok (.iconst 1, 1) := by decide +kernel
theorem dH_next_5 : decode mH_next.2.1 5 = .ok (.isub, 1) := by decide +kernel
theorem dH_next_6 : decode mH_next.2.1 6 = .ok (.istore_n 2, 1) := by decide +kernel
theorem dH_next_7 : decode mH_next.2.1 7 = .ok (.iload_n 2, 1) := by decide +kernel
theorem dH_next_8 : decode mH_next.2.1 8 = .ok (.ifCond .lt 34, 3) := by decide +kernel
theorem dH_next_11 : decode mH_next.2.1 11 = .ok (.aload_n 1, 1) := by decide +kernel
theorem dH_next_12 : decode mH_next.2.1 12 = .ok (.iload_n 2, 1) := by decide +kernel
theorem dH_next_13 : decode mH_next.2.1 13 = .ok (.iaload, 1) := by decide +kernel
theorem dH_next_14 : decode mH_next.2.1 14 = .ok (.aload_n 0, 1) := by decide +kernel
theorem dH_next_15 : decode mH_next.2.1 15 = .ok (.getfield 15, 3) := by decide +kernel
theorem dH_next_18 : decode mH_next.2.1 18 = .ok (.iload_n 2, 1) := by decide +kernel
theorem dH_next_19 : decode mH_next.2.1 19 = .ok (.iaload, 1) := by decide +kernel
theorem dH_next_20 : decode mH_next.2.1 20 = .ok (.if_icmp .ge 12, 3) := by decide +kernel
theorem dH_next_23 : decode mH_next.2.1 23 = .ok (.aload_n 1, 1) := by decide +kernel
theorem dH_next_24 : decode mH_next.2.1 24 = .ok (.iload_n 2, 1) := by decide +kernel
theorem dH_next_25 : decode mH_next.2.1 25 = .ok (.dup2, 1) := by decide +kernel
theorem dH_next_26 : decode mH_next.2.1 26 = .ok (.iaload, 1) := by decide +kernel
theorem dH_next_27 : decode mH_next.2.1 27 = .ok (.iconst 1, 1) := by decide +kernel
theorem dH_next_28 : decode mH_next.2.1 28 = .ok (.iadd, 1) := by decide +kernel
theorem dH_next_29 : decode mH_next.2.1 29 = .ok (.iastore, 1) := by decide +kernel
theorem dH_next_30 : decode mH_next.2.1 30 = .ok (.iconst 1, 1) := by decide +kernel
theorem dH_next_31 : decode mH_next.2.1 31 = .ok (.ireturn, 1) := by decide +kernel
theorem dH_next_32 : decode mH_next.2.1 32 = .ok (.aload_n 1, 1) := by decide +kernel
theorem dH_next_33 : decode mH_next.2.1 33 = .ok (.iload_n 2, 1) := by decide +kernel
theorem dH_next_34 : decode mH_next.2.1 34 = .ok (.iconst 0, 1) := by decide +kernel
theorem dH_next_35 : decode mH_next.2.1 35 = .ok (.iastore, 1) := by decide +kernel
theorem dH_next_36 : decode mH_next.2.1 36 = .ok (.iinc 2 (-1), 3) := by decide +kernel
theorem dH_next_39 : decode mH_next.2.1 39 = .ok (.goto (-32), 3) := by decide +kernel
theorem dH_next_42 : decode mH_next.2.1 42 = .ok (.iconst 0, 1) := by decide +kernel
theorem dH_next_43 : decode mH_next.2.1 43 = .ok (.ireturn, 1) := by decide +kernel
theorem dH_firstWrong_0 : decode mH_firstWrong.2.1 0 = .ok (.iconst 0, 1) := by decide +kernel
theorem dH_firstWrong_1 : decode mH_firstWrong.2.1 1 = .ok (.istore_n 2, 1) := by decide +kernel
theorem dH_firstWrong_2 : decode mH_firstWrong.2.1 2 = .ok (.iload_n 2, 1) := by decide +kernel
theorem dH_firstWrong_3 : decode mH_firstWrong.2.1 3 = .ok (.aload_n 0, 1) := by decide +kernel
theorem dH_firstWrong_4 : decode mH_firstWrong.2.1 4 = .ok (.getfield 21, 3) := by decide +kernel
theorem dH_firstWrong_7 : decode mH_firstWrong.2.1 7 = .ok (.if_icmp .ge 38, 3) := by decide +kernel
theorem dH_firstWrong_10 : decode mH_firstWrong.2.1 10 = .ok (.iload_n 2, 1) := by decide +kernel
theorem dH_firstWrong_11 : decode mH_firstWrong.2.1 11 = .ok (.aload_n 1, 1) := by decide +kernel
theorem dH_firstWrong_12 : decode mH_firstWrong.2.1 12 = .ok (.getfield 31, 3) := by decide +kernel
theorem dH_firstWrong_15 : decode mH_firstWrong.2.1 15 = .ok (.if_icmp .ge 22, 3) := by decide +kernel
theorem dH_firstWrong_18 : decode mH_firstWrong.2.1 18 = .ok (.aload_n 1, 1) := by decide +kernel
theorem dH_firstWrong_19 : decode mH_firstWrong.2.1 19 = .ok (.getfield 36, 3) := by decide +kernel
theorem dH_firstWrong_22 : decode mH_firstWrong.2.1 22 = .ok (.iload_n 2, 1) := by decide +kernel
theorem dH_firstWrong_23 : decode mH_firstWrong.2.1 23 = .ok (.iaload, 1) := by decide +kernel
theorem dH_firstWrong_24 : decode mH_firstWrong.2.1 24 = .ok (.iconst 0, 1) := by decide +kernel
theorem dH_firstWrong_25 : decode mH_firstWrong.2.1 25 = .ok (.aload_n 0, 1) := by decide +kernel
theorem dH_firstWrong_26 : decode mH_firstWrong.2.1 26 = .ok (.getfield 15, 3) := by decide +kernel
theorem dH_firstWrong_29 : decode mH_firstWrong.2.1 29 = .ok (.iload_n 2, 1) := by decide +kernel
theorem dH_firstWrong_30 : decode mH_firstWrong.2.1 30 = .ok (.iaload, 1) := by decide +kernel
theorem dH_firstWrong_31 : decode mH_firstWrong.2.1 31 = .ok (.invokestatic 39, 3) := by decide +kernel
theorem dH_firstWrong_34 : decode mH_firstWrong.2.1 34 = .ok (.ifCond .ne 5, 3) := by decide +kernel
theorem dH_firstWrong_37 : decode mH_firstWrong.2.1 37 = .ok (.iload_n 2, 1) := by decide +kernel
theorem dH_firstWrong_38 : decode mH_firstWrong.2.1 38 = .ok (.ireturn, 1) := by decide +kernel
theorem dH_firstWrong_39 : decode mH_firstWrong.2.1 39 = .ok (.iinc 2 1, 3) := by decide +kernel
theorem dH_firstWrong_42 : decode mH_firstWrong.2.1 42 = .ok (.goto (-40), 3) := by decide +kernel
theorem dH_firstWrong_45 : decode mH_firstWrong.2.1 45 = .ok (.aload_n 1, 1) := by decide +kernel
theorem dH_firstWrong_46 : decode mH_firstWrong.2.1 46 = .ok (.getfield 31, 3) := by decide +kernel
theorem dH_firstWrong_49 : decode mH_firstWrong.2.1 49 = .ok (.aload_n 0, 1) := by decide +kernel
theorem dH_firstWrong_50 : decode mH_firstWrong.2.1 50 = .ok (.getfield 21, 3) := by decide +kernel
theorem dH_firstWrong_53 : decode mH_firstWrong.2.1 53 = .ok (.if_icmp .le 10, 3) := by decide +kernel
theorem dH_firstWrong_56 : decode mH_firstWrong.2.1 56 = .ok (.aload_n 0, 1) := by decide +kernel
theorem dH_firstWrong_57 : decode mH_firstWrong.2.1 57 = .ok (.getfield 21, 3) := by decide +kernel
theorem dH_firstWrong_60 : decode mH_firstWrong.2.1 60 = .ok (.goto 4, 3) := by decide +kernel
theorem dH_firstWrong_63 : decode mH_firstWrong.2.1 63 = .ok (.iconst (-1), 1) := by decide +kernel
theorem dH_firstWrong_64 : decode mH_firstWrong.2.1 64 = .ok (.ireturn, 1) := by decide +kernel
theorem dH_copy_0 : decode mH_copy.2.1 0 = .ok (.aload_n 1, 1) := by decide +kernel
theorem dH_copy_1 : decode mH_copy.2.1 1 = .ok (.getfield 9, 3) := by decide +kernel
theorem dH_copy_4 : decode mH_copy.2.1 4 = .ok (.iconst 0, 1) := by decide +kernel
theorem dH_copy_5 : decode mH_copy.2.1 5 = .ok (.aload_n 0, 1) := by decide +kernel
theorem dH_copy_6 : decode mH_copy.2.1 6 = .ok (.getfield 9, 3) := by decide +kernel
theorem dH_copy_9 : decode mH_copy.2.1 9 = .ok (.iconst 0, 1) := by decide +kernel
theorem dH_copy_10 : decode mH_copy.2.1 10 = .ok (.iconst 5, 1) := by decide +kernel
theorem dH_copy_11 : decode mH_copy.2.1 11 = .ok (.invokestatic 25, 3) := by decide +kernel
theorem dH_copy_14 : decode mH_copy.2.1 14 = .ok (.aload_n 1, 1) := by decide +kernel
theorem dH_copy_15 : decode mH_copy.2.1 15 = .ok (.getfield 15, 3) := by decide +kernel
theorem dH_copy_18 : decode mH_copy.2.1 18 = .ok (.iconst 0, 1) := by decide +kernel
theorem dH_copy_19 : decode mH_copy.2.1 19 = .ok (.aload_n 0, 1) := by decide +kernel
theorem dH_copy_20 : decode mH_copy.2.1 20 = .ok (.getfield 15, 3) := by decide +kernel
theorem dH_copy_23 : decode mH_copy.2.1 23 = .ok (.iconst 0, 1) := by decide +kernel
theorem dH_copy_24 : decode mH_copy.2.1 24 = .ok (.iconst 5, 1) := by decide +kernel
theorem dH_copy_25 : decode mH_copy.2.1 25 = .ok (.invokestatic 25, 3) := by decide +kernel
theorem dH_copy_28 : decode mH_copy.2.1 28 = .ok (.aload_n 1, 1) := by decide +kernel
theorem dH_copy_29 : decode mH_copy.2.1 29 = .ok (.getfield 18, 3) := by decide +kernel
theorem dH_copy_32 : decode mH_copy.2.1 32 = .ok (.iconst 0, 1) := by decide +kernel
theorem dH_copy_33 : decode mH_copy.2.1 33 = .ok (.aload_n 0, 1) := by decide +kernel
theorem dH_copy_34 : decode mH_copy.2.1 34 = .ok (.getfield 18, 3) := by decide +kernel
theorem dH_copy_37 : decode mH_copy.2.1 37 = .ok (.iconst 0, 1) := by decide +kernel
theorem dH_copy_38 : decode mH_copy.2.1 38 = .ok (.iconst 5, 1) := by decide +kernel
theorem dH_copy_39 : decode mH_copy.2.1 39 = .ok (.invokestatic 25, 3) := by decide +kernel
theorem dH_copy_42 : decode mH_copy.2.1 42 = .ok (.aload_n 0, 1) := by decide +kernel
theorem dH_copy_43 : decode mH_copy.2.1 43 = .ok (.aload_n 1, 1) := by decide +kernel
theorem dH_copy_44 : decode mH_copy.2.1 44 = .ok (.getfield 21, 3) := by decide +kernel
theorem dH_copy_47 : decode mH_copy.2.1 47 = .ok (.putfield 21, 3) := by decide +kernel
theorem dH_copy_50 : decode mH_copy.2.1 50 = .ok (.return_, 1) := by decide +kernel
theorem dP_init_0 : decode mP_init.2.1 0 = .ok (.aload_n 0, 1) := by decide +kernel
theorem dP_init_1 : decode mP_init.2.1 1 = .ok (.invokespecial 3, 3) := by decide +kernel
theorem dP_init_4 : decode mP_init.2.1 4 = .ok (.aload_n 0, 1) := by decide +kernel
theorem dP_init_5 : decode mP_init.2.1 5 = .ok (.bipush 16, 2) := by decide +kernel
theorem dP_init_7 : decode mP_init.2.1 7 = .ok (.newarray .int, 2) := by decide +kernel
theorem dP_init_9 : decode mP_init.2.1 9 = .ok (.putfield 9, 3) := by decide +kernel
theorem dP_init_12 : decode mP_init.2.1 12 = .ok (.aload_n 0, 1) := by decide +kernel
theorem dP_init_13 : decode mP_init.2.1 13 = .ok (.bipush 16, 2) := by decide +kernel
theorem dP_init_15 : decode mP_init.2.1 15 = .ok (.newarray .int, 2) := by decide +kernel
theorem dP_init_17 : decode mP_init.2.1 17 = .ok (.putfield 15, 3) := by decide +kernel
theorem dP_init_20 : decode mP_init.2.1 20 = .ok (.aload_n 0, 1) := by decide +kernel
theorem dP_init_21 : decode mP_init.2.1 21 = .ok (.bipush 16, 2) := by decide +kernel
theorem dP_init_23 : decode mP_init.2.1 23 = .ok (.newarray .int, 2) := by decide +kernel
theorem dP_init_25 : decode mP_init.2.1 25 = .ok (.putfield 18, 3) := by decide +kernel
theorem dP_init_28 : decode mP_init.2.1 28 = .ok (.return_, 1) := by decide +kernel
theorem dP_load_0 : decode mP_load.2.1 0 = .ok (.aload_n 1, 1) := by decide +kernel
theorem dP_load_1 : decode mP_load.2.1 1 = .ok (.getfield 21, 3) := by decide +kernel
theorem dP_load_4 : decode mP_load.2.1 4 = .ok (.astore_n 3, 1) := by decide +kernel
theorem dP_load_5 : decode mP_load.2.1 5 = .ok (.aload_n 1, 1) := by decide +kernel
theorem dP_load_6 : decode mP_load.2.1 6 = .ok (.getfield 27, 3) := by decide +kernel
theorem dP_load_9 : decode mP_load.2.1 9 = .ok (.astore 4, 2) := by decide +kernel
theorem dP_load_11 : decode mP_load.2.1 11 = .ok (.aload_n 3, 1) := by decide +kernel
theorem dP_load_12 : decode mP_load.2.1 12 = .ok (.getfield 31, 3) := by decide +kernel
theorem dP_load_15 : decode mP_load.2.1 15 = .ok (.iconst 0, 1) := by decide +kernel
theorem dP_load_16 : decode mP_load.2.1 16 = .ok (.aload_n 0, 1) := by decide +kernel
theorem dP_load_17 : decode mP_load.2.1 17 = .ok (.getfield 9, 3) := by decide +kernel
theorem dP_load_20 : decode mP_load.2.1 20 = .ok (.iconst 0, 1) := by decide +kernel
theorem dP_load_21 : decode mP_load.2.1 21 = .ok (.bipush 16, 2) := by decide +kernel
theorem dP_load_23 : decode mP_load.2.1 23 = .ok (.invokestatic 36, 3) := by decide +kernel
theorem dP_load_26 : decode mP_load.2.1 26 = .ok (.iconst 0, 1) := by decide +kernel
theorem dP_load_27 : decode mP_load.2.1 27 = .ok (.istore 5, 2) := by decide +kernel
theorem dP_load_29 : decode mP_load.2.1 29 = .ok (.iload 5, 2) := by decide +kernel
theorem dP_load_31 : decode mP_load.2.1 31 = .ok (.aload 4, 2) := by decide +kernel
theorem dP_load_33 : decode mP_load.2.1 33 = .ok (.getfield 42, 3) := by decide +kernel
theorem dP_load_36 : decode mP_load.2.1 36 = .ok (.if_icmp .ge 42, 3) := by decide +kernel
theorem dP_load_39 : decode mP_load.2.1 39 = .ok (.iload_n 2, 1) := by decide +kernel
theorem dP_load_40 : decode mP_load.2.1 40 = .ok (.iload 5, 2) := by decide +kernel
theorem dP_load_42 : decode mP_load.2.1 42 = .ok (.invokestatic 48, 3) := by decide +kernel
theorem dP_load_45 : decode mP_load.2.1 45 = .ok (.ifCond .eq 27, 3) := by decide +kernel
theorem dP_load_48 : decode mP_load.2.1 48 = .ok (.aload_n 0, 1) := by decide +kernel
theorem dP_load_49 : decode mP_load.2.1 49 = .ok (.getfield 9, 3) := by decide +kernel
theorem dP_load_52 : decode mP_load.2.1 52 = .ok (.aload 4, 2) := by decide +kernel
theorem dP_load_54 : decode mP_load.2.1 54 = .ok (.getfield 52, 3) := by decide +kernel
theorem dP_load_57 : decode mP_load.2.1 57 = .ok (.iload 5, 2) := by decide +kernel
theorem dP_load_59 : decode mP_load.2.1 59 = .ok (.iaload, 1) := by decide +kernel
theorem dP_load_60 : decode mP_load.2.1 60 = .ok (.dup2, 1) := by decide +kernel
theorem dP_load_61 : decode mP_load.2.1 61 = .ok (.iaload, 1) := by decide +kernel
theorem dP_load_62 : decode mP_load.2.1 62 = .ok (.aload 4, 2) := by decide +kernel
theorem dP_load_64 : decode mP_load.2.1 64 = .ok (.getfield 55, 3) := by decide +kernel
theorem dP_load_67 : decode mP_load.2.1 67 = .ok (.iload 5, 2) := by decide +kernel
theorem dP_load_69 : decode mP_load.2.1 69 = .ok (.iaload, 1) := by decide +kernel
theorem dP_load_70 : decode mP_load.2.1 70 = .ok (.iadd, 1) := by decide +kernel
theorem dP_load_71 : decode mP_load.2.1 71 = .ok (.iastore, 1) := by decide +kernel
theorem dP_load_72 : decode mP_load.2.1 72 = .ok (.iinc 5 1, 3) := by decide +kernel
theorem dP_load_75 : decode mP_load.2.1 75 = .ok (.goto (-46), 3) := by decide +kernel
theorem dP_load_78 : decode mP_load.2.1 78 = .ok (.return_, 1) := by decide +kernel
theorem dP_run_0 : decode mP_run.2.1 0 = .ok (.aload_n 1, 1) := by decide +kernel
theorem dP_run_1 : decode mP_run.2.1 1 = .ok (.getfield 21, 3) := by decide +kernel
theorem dP_run_4 : decode mP_run.2.1 4 = .ok (.astore_n 2, 1) := by decide +kernel
theorem dP_run_5 : decode mP_run.2.1 5 = .ok (.iconst 0, 1) := by decide +kernel
theorem dP_run_6 : decode mP_run.2.1 6 = .ok (.istore_n 3, 1) := by decide +kernel
theorem dP_run_7 : decode mP_run.2.1 7 = .ok (.iconst 0, 1) := by decide +kernel
theorem dP_run_8 : decode mP_run.2.1 8 = .ok (.istore 4, 2) := by decide +kernel
theorem dP_run_10 : decode mP_run.2.1 10 = .ok (.iload 4, 2) := by decide +kernel
theorem dP_run_12 : decode mP_run.2.1 12 = .ok (.aload_n 2, 1) := by decide +kernel
theorem dP_run_13 : decode mP_run.2.1 13 = .ok (.getfield 58, 3) := by decide +kernel
theorem dP_run_16 : decode mP_run.2.1 16 = .ok (.if_icmp .ge 82, 3) := by decide +kernel
theorem dP_run_19 : decode mP_run.2.1 19 = .ok (.aload_n 2, 1) := by decide +kernel
theorem dP_run_20 : decode mP_run.2.1 20 = .ok (.getfield 59, 3) := by decide +kernel
theorem dP_run_23 : decode mP_run.2.1 23 = .ok (.iload 4, 2) := by decide +kernel
theorem dP_run_25 : decode mP_run.2.1 25 = .ok (.iaload, 1) := by decide +kernel
theorem dP_run_26 : decode mP_run.2.1 26 = .ok (.istore 5, 2) := by decide +kernel
theorem dP_run_28 : decode mP_run.2.1 28 = .ok (.aload_n 0, 1) := by decide +kernel
theorem dP_run_29 : decode mP_run.2.1 29 = .ok (.getfield 15, 3) := by decide +kernel
theorem dP_run_32 : decode mP_run.2.1 32 = .ok (.iload 5, 2) := by decide +kernel
theorem dP_run_34 : decode mP_run.2.1 34 = .ok (.aload_n 2, 1) := by decide +kernel
theorem dP_run_35 : decode mP_run.2.1 35 = .ok (.iload 5, 2) := by decide +kernel
theorem dP_run_37 : decode mP_run.2.1 37 = .ok (.aload_n 0, 1) := by decide +kernel
theorem dP_run_38 : decode mP_run.2.1 38 = .ok (.getfield 18, 3) := by decide +kernel
theorem dP_run_41 : decode mP_run.2.1 41 = .ok (.invokevirtual 62, 3) := by decide +kernel
theorem dP_run_44 : decode mP_run.2.1 44 = .ok (.iastore, 1) := by decide +kernel
theorem dP_run_45 : decode mP_run.2.1 45 = .ok (.aload_n 0, 1) := by decide +kernel
theorem dP_run_46 : decode mP_run.2.1 46 = .ok (.getfield 18, 3) := by decide +kernel
theorem dP_run_49 : decode mP_run.2.1 49 = .ok (.iload 5, 2) := by decide +kernel
theorem dP_run_51 : decode mP_run.2.1 51 = .ok (.aload_n 1, 1) := by decide +kernel
theorem dP_run_52 : decode mP_run.2.1 52 = .ok (.getfield 66, 3) := by decide +kernel
theorem dP_run_55 : decode mP_run.2.1 55 = .ok (.aload_n 2, 1) := by decide +kernel
theorem dP_run_56 : decode mP_run.2.1 56 = .ok (.getfield 70, 3) := by decide +kernel
theorem dP_run_59 : decode mP_run.2.1 59 = .ok (.iload 5, 2) := by decide +kernel
theorem dP_run_61 : decode mP_run.2.1 61 = .ok (.iaload, 1) := by decide +kernel
theorem dP_run_62 : decode mP_run.2.1 62 = .ok (.aload_n 0, 1) := by decide +kernel
theorem dP_run_63 : decode mP_run.2.1 63 = .ok (.getfield 15, 3) := by decide +kernel
theorem dP_run_66 : decode mP_run.2.1 66 = .ok (.iload 5, 2) := by decide +kernel
theorem dP_run_68 : decode mP_run.2.1 68 = .ok (.iaload, 1) := by decide +kernel
theorem dP_run_69 : decode mP_run.2.1 69 = .ok (.aload_n 0, 1) := by decide +kernel
theorem dP_run_70 : decode mP_run.2.1 70 = .ok (.getfield 9, 3) := by decide +kernel
theorem dP_run_73 : decode mP_run.2.1 73 = .ok (.iload 5, 2) := by decide +kernel
theorem dP_run_75 : decode mP_run.2.1 75 = .ok (.iaload, 1) := by decide +kernel
theorem dP_run_76 : decode mP_run.2.1 76 = .ok (.invokevirtual 73, 3) := by decide +kernel
theorem dP_run_79 : decode mP_run.2.1 79 = .ok (.iastore, 1) := by decide +kernel
theorem dP_run_80 : decode mP_run.2.1 80 = .ok (.iload_n 3, 1) := by decide +kernel
theorem dP_run_81 : decode mP_run.2.1 81 = .ok (.aload_n 0, 1) := by decide +kernel
theorem dP_run_82 : decode mP_run.2.1 82 = .ok (.getfield 18, 3) := by decide +kernel
theorem dP_run_85 : decode mP_run.2.1 85 = .ok (.iload 5, 2) := by decide +kernel
theorem dP_run_87 : decode mP_run.2.1 87 = .ok (.iaload, 1) := by decide +kernel
theorem dP_run_88 : decode mP_run.2.1 88 = .ok (.invokestatic 79, 3) := by decide +kernel
theorem dP_run_91 : decode mP_run.2.1 91 = .ok (.istore_n 3, 1) := by decide +kernel
theorem dP_run_92 : decode mP_run.2.1 92 = .ok (.iinc 4 1, 3) := by decide +kernel
theorem dP_run_95 : decode mP_run.2.1 95 = .ok (.goto (-85), 3) := by decide +kernel
theorem dP_run_98 : decode mP_run.2.1 98 = .ok (.iload_n 3, 1) := by decide +kernel
theorem dP_run_99 : decode mP_run.2.1 99 = .ok (.ireturn, 1) := by decide +kernel
theorem dP_lastWork_0 : decode mP_lastWork.2.1 0 = .ok (.aload_n 1, 1) := by decide +kernel
theorem dP_lastWork_1 : decode mP_lastWork.2.1 1 = .ok (.getfield 58, 3) := by decide +kernel
theorem dP_lastWork_4 : decode mP_lastWork.2.1 4 = .ok (.ifCond .le 7, 3) := by decide +kernel
theorem dP_lastWork_7 : decode mP_lastWork.2.1 7 = .ok (.iconst 0, 1) := by decide +kernel
theorem dP_lastWork_8 : decode mP_lastWork.2.1 8 = .ok (.goto 4, 3) := by decide +kernel
theorem dP_lastWork_11 : decode mP_lastWork.2.1 11 = .ok (.iconst (-1), 1) := by decide +kernel
theorem dP_lastWork_12 : decode mP_lastWork.2.1 12 = .ok (.istore_n 2, 1) := by decide +kernel
theorem dP_lastWork_13 : decode mP_lastWork.2.1 13 = .ok (.iconst 1, 1) := by decide +kernel
theorem dP_lastWork_14 : decode mP_lastWork.2.1 14 = .ok (.istore_n 3, 1) := by decide +kernel
theorem dP_lastWork_15 : decode mP_lastWork.2.1 15 = .ok (.iload_n 3, 1) := by decide +kernel
theorem dP_lastWork_16 : decode mP_lastWork.2.1 16 = .ok (.aload_n 1, 1) := by decide +kernel
theorem dP_lastWork_17 : decode mP_lastWork.2.1 17 = .ok (.getfield 58, 3) := by decide +kernel
theorem dP_lastWork_20 : decode mP_lastWork.2.1 20 = .ok (.if_icmp .ge 26, 3) := by decide +kernel
theorem dP_lastWork_23 : decode mP_lastWork.2.1 23 = .ok (.aload_n 0, 1) := by decide +kernel
theorem dP_lastWork_24 : decode mP_lastWork.2.1 24 = .ok (.getfield 18, 3) := by decide +kernel
theorem dP_lastWork_27 : decode mP_lastWork.2.1 27 = .ok (.iload_n 3, 1) := by decide +kernel
theorem dP_lastWork_28 : decode mP_lastWork.2.1 28 = .ok (.iaload, 1) := by decide +kernel
theorem dP_lastWork_29 : decode mP_lastWork.2.1 29 = .ok (.aload_n 0, 1) := by decide +kernel
theorem dP_lastWork_30 : decode mP_lastWork.2.1 30 = .ok (.getfield 18, 3) := by decide +kernel
theorem dP_lastWork_33 : decode mP_lastWork.2.1 33 = .ok (.iload_n 2, 1) := by decide +kernel
theorem dP_lastWork_34 : decode mP_lastWork.2.1 34 = .ok (.iaload, 1) := by decide +kernel
theorem dP_lastWork_35 : decode mP_lastWork.2.1 35 = .ok (.if_icmp .le 5, 3) := by decide +kernel
theorem dP_lastWork_38 : decode mP_lastWork.2.1 38 = .ok (.iload_n 3, 1) := by decide +kernel
theorem dP_lastWork_39 : decode mP_lastWork.2.1 39 = .ok (.istore_n 2, 1) := by decide +kernel
theorem dP_lastWork_40 : decode mP_lastWork.2.1 40 = .ok (.iinc 3 1, 3) := by decide +kernel
theorem dP_lastWork_43 : decode mP_lastWork.2.1 43 = .ok (.goto (-28), 3) := by decide +kernel
theorem dP_lastWork_46 : decode mP_lastWork.2.1 46 = .ok (.iload_n 2, 1) := by decide +kernel
theorem dP_lastWork_47 : decode mP_lastWork.2.1 47 = .ok (.ireturn, 1) := by decide +kernel
theorem dP_rulerOf_0 : decode mP_rulerOf.2.1 0 = .ok (.iconst 0, 1) := by decide +kernel
theorem dP_rulerOf_1 : decode mP_rulerOf.2.1 1 = .ok (.istore_n 3, 1) := by decide +kernel
theorem dP_rulerOf_2 : decode mP_rulerOf.2.1 2 = .ok (.iload_n 3, 1) := by decide +kernel
theorem dP_rulerOf_3 : decode mP_rulerOf.2.1 3 = .ok (.aload_n 2, 1) := by decide +kernel
theorem dP_rulerOf_4 : decode mP_rulerOf.2.1 4 = .ok (.getfield 58, 3) := by decide +kernel
theorem dP_rulerOf_7 : decode mP_rulerOf.2.1 7 = .ok (.if_icmp .ge 59, 3) := by decide +kernel
theorem dP_rulerOf_10 : decode mP_rulerOf.2.1 10 = .ok (.aload_n 0, 1) := by decide +kernel
theorem dP_rulerOf_11 : decode mP_rulerOf.2.1 11 = .ok (.getfield 18, 3) := by decide +kernel
theorem dP_rulerOf_14 : decode mP_rulerOf.2.1 14 = .ok (.iload_n 3, 1) := by decide +kernel
theorem dP_rulerOf_15 : decode mP_rulerOf.2.1 15 = .ok (.iaload, 1) := by decide +kernel
theorem dP_rulerOf_16 : decode mP_rulerOf.2.1 16 = .ok (.aload_n 2, 1) := by decide +kernel
theorem dP_rulerOf_17 : decode mP_rulerOf.2.1 17 = .ok (.getfield 85, 3) := by decide +kernel
theorem dP_rulerOf_20 : decode mP_rulerOf.2.1 20 = .ok (.iload_n 3, 1) := by decide +kernel
theorem dP_rulerOf_21 : decode mP_rulerOf.2.1 21 = .ok (.bipush 16, 2) := by decide +kernel
theorem dP_rulerOf_23 : decode mP_rulerOf.2.1 23 = .ok (.imul, 1) := by decide +kernel
theorem dP_rulerOf_24 : decode mP_rulerOf.2.1 24 = .ok (.iload_n 1, 1) := by decide +kernel
theorem dP_rulerOf_25 : decode mP_rulerOf.2.1 25 = .ok (.iadd, 1) := by decide +kernel
theorem dP_rulerOf_26 : decode mP_rulerOf.2.1 26 = .ok (.iaload, 1) := by decide +kernel
theorem dP_rulerOf_27 : decode mP_rulerOf.2.1 27 = .ok (.iadd, 1) := by decide +kernel
theorem dP_rulerOf_28 : decode mP_rulerOf.2.1 28 = .ok (.aload_n 0, 1) := by decide +kernel
theorem dP_rulerOf_29 : decode mP_rulerOf.2.1 29 = .ok (.getfield 15, 3) := by decide +kernel
theorem dP_rulerOf_32 : decode mP_rulerOf.2.1 32 = .ok (.iload_n 1, 1) := by decide +kernel
theorem dP_rulerOf_33 : decode mP_rulerOf.2.1 33 = .ok (.iaload, 1) := by decide +kernel
theorem dP_rulerOf_34 : decode mP_rulerOf.2.1 34 = .ok (.if_icmp .ne 7, 3) := by decide +kernel
theorem dP_rulerOf_37 : decode mP_rulerOf.2.1 37 = .ok (.iconst 1, 1) := by decide +kernel
theorem dP_rulerOf_38 : decode mP_rulerOf.2.1 38 = .ok (.goto 4, 3) := by decide +kernel
theorem dP_rulerOf_41 : decode mP_rulerOf.2.1 41 = .ok (.iconst 0, 1) := by decide +kernel
theorem dP_rulerOf_42 : decode mP_rulerOf.2.1 42 = .ok (.istore 4, 2) := by decide +kernel
theorem dP_rulerOf_44 : decode mP_rulerOf.2.1 44 = .ok (.aload_n 2, 1) := by decide +kernel
theorem dP_rulerOf_45 : decode mP_rulerOf.2.1 45 = .ok (.iload_n 3, 1) := by decide +kernel
theorem dP_rulerOf_46 : decode mP_rulerOf.2.1 46 = .ok (.iload_n 1, 1) := by decide +kernel
theorem dP_rulerOf_47 : decode mP_rulerOf.2.1 47 = .ok (.invokevirtual 88, 3) := by decide +kernel
theorem dP_rulerOf_50 : decode mP_rulerOf.2.1 50 = .ok (.ifCond .eq 10, 3) := by decide +kernel
theorem dP_rulerOf_53 : decode mP_rulerOf.2.1 53 = .ok (.iload 4, 2) := by decide +kernel
theorem dP_rulerOf_55 : decode mP_rulerOf.2.1 55 = .ok (.ifCond .eq 5, 3) := by decide +kernel
theorem dP_rulerOf_58 : decode mP_rulerOf.2.1 58 = .ok (.iload_n 3, 1) := by decide +kernel
theorem dP_rulerOf_59 : decode mP_rulerOf.2.1 59 = .ok (.ireturn, 1) := by decide +kernel
theorem dP_rulerOf_60 : decode mP_rulerOf.2.1 60 = .ok (.iinc 3 1, 3) := by decide +kernel
theorem dP_rulerOf_63 : decode mP_rulerOf.2.1 63 = .ok (.goto (-61), 3) := by decide +kernel
theorem dP_rulerOf_66 : decode mP_rulerOf.2.1 66 = .ok (.iconst (-1), 1) := by decide +kernel
theorem dP_rulerOf_67 : decode mP_rulerOf.2.1 67 = .ok (.ireturn, 1) := by decide +kernel
