theorem dR_init_0 : decode mR_init.2.1 0 = .ok (.aload_n 0, 1) := by decide +kernel
theorem dR_init_1 : decode mR_init.2.1 1 = .ok (.invokespecial 3, 3) := by decide +kernel
theorem dR_init_4 : decode mR_init.2.1 4 = .ok (.aload_n 0, 1) := by decide +kernel
theorem dR_init_5 : decode mR_init.2.1 5 = .ok (.bipush 6, 2) := by decide +kernel
theorem dR_init_7 : decode mR_init.2.1 7 = .ok (.newarray .int, 2) := by decide +kernel
theorem dR_init_9 : decode mR_init.2.1 9 = .ok (.putfield 9, 3) := by decide +kernel
theorem dR_init_12 : decode mR_init.2.1 12 = .ok (.aload_n 0, 1) := by decide +kernel
theorem dR_init_13 : decode mR_init.2.1 13 = .ok (.iconst 0, 1) := by decide +kernel
theorem dR_init_14 : decode mR_init.2.1 14 = .ok (.newarray .byte, 2) := by decide +kernel
theorem dR_init_16 : decode mR_init.2.1 16 = .ok (.putfield 15, 3) := by decide +kernel
theorem dR_init_19 : decode mR_init.2.1 19 = .ok (.aload_n 0, 1) := by decide +kernel
theorem dR_init_20 : decode mR_init.2.1 20 = .ok (.iconst 0, 1) := by decide +kernel
theorem dR_init_21 : decode mR_init.2.1 21 = .ok (.putfield 19, 3) := by decide +kernel
theorem dR_init_24 : decode mR_init.2.1 24 = .ok (.aload_n 0, 1) := by decide +kernel
theorem dR_init_25 : decode mR_init.2.1 25 = .ok (.iconst 0, 1) := by decide +kernel
theorem dR_init_26 : decode mR_init.2.1 26 = .ok (.putfield 23, 3) := by decide +kernel
theorem dR_init_29 : decode mR_init.2.1 29 = .ok (.aload_n 0, 1) := by decide +kernel
theorem dR_init_30 : decode mR_init.2.1 30 = .ok (.iconst 0, 1) := by decide +kernel
theorem dR_init_31 : decode mR_init.2.1 31 = .ok (.putfield 26, 3) := by decide +kernel
theorem dR_init_34 : decode mR_init.2.1 34 = .ok (.aload_n 0, 1) := by decide +kernel
theorem dR_init_35 : decode mR_init.2.1 35 = .ok (.iconst 0, 1) := by decide +kernel
theorem dR_init_36 : decode mR_init.2.1 36 = .ok (.putfield 29, 3) := by decide +kernel
theorem dR_init_39 : decode mR_init.2.1 39 = .ok (.aload_n 0, 1) := by decide +kernel
theorem dR_init_40 : decode mR_init.2.1 40 = .ok (.iconst 0, 1) := by decide +kernel
theorem dR_init_41 : decode mR_init.2.1 41 = .ok (.putfield 32, 3) := by decide +kernel
theorem dR_init_44 : decode mR_init.2.1 44 = .ok (.return_, 1) := by decide +kernel
theorem dR_read_0 : decode mR_read.2.1 0 = .ok (.aload_n 0, 1) := by decide +kernel
theorem dR_read_1 : decode mR_read.2.1 1 = .ok (.aload_n 1, 1) := by decide +kernel
theorem dR_read_2 : decode mR_read.2.1 2 = .ok (.putfield 15, 3) := by decide +kernel
theorem dR_read_5 : decode mR_read.2.1 5 = .ok (.aload_n 0, 1) := by decide +kernel
theorem dR_read_6 : decode mR_read.2.1 6 = .ok (.iload_n 2, 1) := by decide +kernel
theorem dR_read_7 : decode mR_read.2.1 7 = .ok (.putfield 19, 3) := by decide +kernel
theorem dR_read_10 : decode mR_read.2.1 10 = .ok (.aload_n 0, 1) := by decide +kernel
theorem dR_read_11 : decode mR_read.2.1 11 = .ok (.iload_n 2, 1) := by decide +kernel
theorem dR_read_12 : decode mR_read.2.1 12 = .ok (.iload_n 3, 1) := by decide +kernel
theorem dR_read_13 : decode mR_read.2.1 13 = .ok (.iadd, 1) := by decide +kernel
theorem dR_read_14 : decode mR_read.2.1 14 = .ok (.putfield 23, 3) := by decide +kernel
theorem dR_read_17 : decode mR_read.2.1 17 = .ok (.aload_n 0, 1) := by decide +kernel
theorem dR_read_18 : decode mR_read.2.1 18 = .ok (.iload_n 2, 1) := by decide +kernel
theorem dR_read_19 : decode mR_read.2.1 19 = .ok (.putfield 26, 3) := by decide +kernel
theorem dR_read_22 : decode mR_read.2.1 22 = .ok (.aload_n 0, 1) := by decide +kernel
theorem dR_read_23 : decode mR_read.2.1 23 = .ok (.iconst 0, 1) := by decide +kernel
theorem dR_read_24 : decode mR_read.2.1 24 = .ok (.putfield 29, 3) := by decide +kernel
theorem dR_read_27 : decode mR_read.2.1 27 = .ok (.aload_n 0, 1) := by decide +kernel
theorem dR_read_28 : decode mR_read.2.1 28 = .ok (.iconst 0, 1) := by decide +kernel
theorem dR_read_29 : decode mR_read.2.1 29 = .ok (.putfield 32, 3) := by decide +kernel
theorem dR_read_32 : decode mR_read.2.1 32 = .ok (.aload_n 0, 1) := by decide +kernel
theorem dR_read_33 : decode mR_read.2.1 33 = .ok (.invokevirtual 36, 3) := by decide +kernel
theorem dR_read_36 : decode mR_read.2.1 36 = .ok (.istore 4, 2) := by decide +kernel
theorem dR_read_38 : decode mR_read.2.1 38 = .ok (.aload_n 0, 1) := by decide +kernel
theorem dR_read_39 : decode mR_read.2.1 39 = .ok (.aload_n 0, 1) := by decide +kernel
theorem dR_read_40 : decode mR_read.2.1 40 = .ok (.getfield 32, 3) := by decide +kernel
theorem dR_read_43 : decode mR_read.2.1 43 = .ok (.ifCond .ne 14, 3) := by decide +kernel
theorem dR_read_46 : decode mR_read.2.1 46 = .ok (.aload_n 0, 1) := by decide +kernel
theorem dR_read_47 : decode mR_read.2.1 47 = .ok (.getfield 26, 3) := by decide +kernel
theorem dR_read_50 : decode mR_read.2.1 50 = .ok (.aload_n 0, 1) := by decide +kernel
theorem dR_read_51 : decode mR_read.2.1 51 = .ok (.getfield 23, 3) := by decide +kernel
theorem dR_read_54 : decode mR_read.2.1 54 = .ok (.if_icmp .ge 7, 3) := by decide +kernel
theorem dR_read_57 : decode mR_read.2.1 57 = .ok (.iconst 1, 1) := by decide +kernel
theorem dR_read_58 : decode mR_read.2.1 58 = .ok (.goto 4, 3) := by decide +kernel
theorem dR_read_61 : decode mR_read.2.1 61 = .ok (.iconst 0, 1) := by decide +kernel
theorem dR_read_62 : decode mR_read.2.1 62 = .ok (.putfield 32, 3) := by decide +kernel
theorem dR_read_65 : decode mR_read.2.1 65 = .ok (.iload 4, 2) := by decide +kernel
theorem dR_read_67 : decode mR_read.2.1 67 = .ok (.ireturn, 1) := by decide +kernel
theorem dR_either_0 : decode mR_either.2.1 0 = .ok (.aload_n 0, 1) := by decide +kernel
theorem dR_either_1 : decode mR_either.2.1 1 = .ok (.invokevirtual 43, 3) := by decide +kernel
theorem dR_either_4 : decode mR_either.2.1 4 = .ok (.istore_n 1, 1) := by decide +kernel
theorem dR_either_5 : decode mR_either.2.1 5 = .ok (.iconst 0, 1) := by decide +kernel
theorem dR_either_6 : decode mR_either.2.1 6 = .ok (.istore_n 2, 1) := by decide +kernel
theorem dR_either_7 : decode mR_either.2.1 7 = .ok (.iload_n 2, 1) := by decide +kernel
theorem dR_either_8 : decode mR_either.2.1 8 = .ok (.bipush 60, 2) := by decide +kernel
theorem dR_either_10 : decode mR_either.2.1 10 = .ok (.if_icmp .ge 40, 3) := by decide +kernel
theorem dR_either_13 : decode mR_either.2.1 13 = .ok (.aload_n 0, 1) := by decide +kernel
theorem dR_either_14 : decode mR_either.2.1 14 = .ok (.bipush 124, 2) := by decide +kernel
theorem dR_either_16 : decode mR_either.2.1 16 = .ok (.invokevirtual 46, 3) := by decide +kernel
theorem dR_either_19 : decode mR_either.2.1 19 = .ok (.ifCond .eq 31, 3) := by decide +kernel
theorem dR_either_22 : decode mR_either.2.1 22 = .ok (.aload_n 0, 1) := by decide +kernel
theorem dR_either_23 : decode mR_either.2.1 23 = .ok (.invokevirtual 43, 3) := by decide +kernel
theorem dR_either_26 : decode mR_either.2.1 26 = .ok (.istore_n 3, 1) := by decide +kernel
theorem dR_either_27 : decode mR_either.2.1 27 = .ok (.iload_n 1, 1) := by decide +kernel
theorem dR_either_28 : decode mR_either.2.1 28 = .ok (.ifCond .ne 7, 3) := by decide +kernel
theorem dR_either_31 : decode mR_either.2.1 31 = .ok (.iload_n 3, 1) := by decide +kernel
theorem dR_either_32 : decode mR_either.2.1 32 = .ok (.ifCond .eq 7, 3) := by decide +kernel
theorem dR_either_35 : decode mR_either.2.1 35 = .ok (.iconst 1, 1) := by decide +kernel
theorem dR_either_36 : decode mR_either.2.1 36 = .ok (.goto 4, 3) := by decide +kernel
theorem dR_either_39 : decode mR_either.2.1 39 = .ok (.iconst 0, 1) := by decide +kernel
theorem dR_either_40 : decode mR_either.2.1 40 = .ok (.invokestatic 50, 3) := by decide +kernel
theorem dR_either_43 : decode mR_either.2.1 43 = .ok (.istore_n 1, 1) := by decide +kernel
theorem dR_either_44 : decode mR_either.2.1 44 = .ok (.iinc 2 1, 3) := by decide +kernel
theorem dR_either_47 : decode mR_either.2.1 47 = .ok (.goto (-40), 3) := by decide +kernel
theorem dR_either_50 : decode mR_either.2.1 50 = .ok (.iload_n 1, 1) := by decide +kernel
theorem dR_either_51 : decode mR_either.2.1 51 = .ok (.ireturn, 1) := by decide +kernel
theorem dR_both_0 : decode mR_both.2.1 0 = .ok (.aload_n 0, 1) := by decide +kernel
theorem dR_both_1 : decode mR_both.2.1 1 = .ok (.invokevirtual 54, 3) := by decide +kernel
theorem dR_both_4 : decode mR_both.2.1 4 = .ok (.istore_n 1, 1) := by decide +kernel
theorem dR_both_5 : decode mR_both.2.1 5 = .ok (.iconst 0, 1) := by decide +kernel
theorem dR_both_6 : decode mR_both.2.1 6 = .ok (.istore_n 2, 1) := by decide +kernel
theorem dR_both_7 : decode mR_both.2.1 7 = .ok (.iload_n 2, 1) := by decide +kernel
theorem dR_both_8 : decode mR_both.2.1 8 = .ok (.bipush 60, 2) := by decide +kernel
theorem dR_both_10 : decode mR_both.2.1 10 = .ok (.if_icmp .ge 40, 3) := by decide +kernel
theorem dR_both_13 : decode mR_both.2.1 13 = .ok (.aload_n 0, 1) := by decide +kernel
theorem dR_both_14 : decode mR_both.2.1 14 = .ok (.bipush 38, 2) := by decide +kernel
theorem dR_both_16 : decode mR_both.2.1 16 = .ok (.invokevirtual 46, 3) := by decide +kernel
theorem dR_both_19 : decode mR_both.2.1 19 = .ok (.ifCond .eq 31, 3) := by decide +kernel
theorem dR_both_22 : decode mR_both.2.1 22 = .ok (.aload_n 0, 1) := by decide +kernel
theorem dR_both_23 : decode mR_both.2.1 23 = .ok (.invokevirtual 54, 3) := by decide +kernel
theorem dR_both_26 : decode mR_both.2.1 26 = .ok (.istore_n 3, 1) := by decide +kernel
theorem dR_both_27 : decode mR_both.2.1 27 = .ok (.iload_n 1, 1) := by decide +kernel
theorem dR_both_28 : decode mR_both.2.1 28 = .ok (.ifCond .eq 11, 3) := by decide +kernel
theorem dR_both_31 : decode mR_both.2.1 31 = .ok (.iload_n 3, 1) := by decide +kernel
theorem dR_both_32 : decode mR_both.2.1 32 = .ok (.ifCond .eq 7, 3) := by decide +kernel
theorem dR_both_35 : decode mR_both.2.1 35 = .ok (.iconst 1, 1) := by decide +kernel
theorem dR_both_36 : decode mR_both.2.1 36 = .ok (.goto 4, 3) := by decide +kernel
theorem dR_both_39 : decode mR_both.2.1 39 = .ok (.iconst 0, 1) := by decide +kernel
theorem dR_both_40 : decode mR_both.2.1 40 = .ok (.invokestatic 50, 3) := by decide +kernel
theorem dR_both_43 : decode mR_both.2.1 43 = .ok (.istore_n 1, 1) := by decide +kernel
theorem dR_both_44 : decode mR_both.2.1 44 = .ok (.iinc 2 1, 3) := by decide +kernel
theorem dR_both_47 : decode mR_both.2.1 47 = .ok (.goto (-40), 3) := by decide +kernel
theorem dR_both_50 : decode mR_both.2.1 50 = .ok (.iload_n 1, 1) := by decide +kernel
theorem dR_both_51 : decode mR_both.2.1 51 = .ok (.ireturn, 1) := by decide +kernel
theorem dR_compared_0 : decode mR_compared.2.1 0 = .ok (.aload_n 0, 1) := by decide +kernel
theorem dR_compared_1 : decode mR_compared.2.1 1 = .ok (.invokevirtual 57, 3) := by decide +kernel
theorem dR_compared_4 : decode mR_compared.2.1 4 = .ok (.istore_n 1, 1) := by decide +kernel
theorem dR_compared_5 : decode mR_compared.2.1 5 = .ok (.aload_n 0, 1) := by decide +kernel
theorem dR_compared_6 : decode mR_compared.2.1 6 = .ok (.bipush 60, 2) := by decide +kernel
theorem dR_compared_8 : decode mR_compared.2.1 8 = .ok (.invokevirtual 46, 3) := by decide +kernel
theorem dR_compared_11 : decode mR_compared.2.1 11 = .ok (.ifCond .eq 20, 3) := by decide +kernel
theorem dR_compared_14 : decode mR_compared.2.1 14 = .ok (.iload_n 1, 1) := by decide +kernel
theorem dR_compared_15 : decode mR_compared.2.1 15 = .ok (.aload_n 0, 1) := by decide +kernel
theorem dR_compared_16 : decode mR_compared.2.1 16 = .ok (.invokevirtual 57, 3) := by decide +kernel
theorem dR_compared_19 : decode mR_compared.2.1 19 = .ok (.if_icmp .ge 7, 3) := by decide +kernel
theorem dR_compared_22 : decode mR_compared.2.1 22 = .ok (.iconst 1, 1) := by decide +kernel
theorem dR_compared_23 : decode mR_compared.2.1 23 = .ok (.goto 4, 3) := by decide +kernel
theorem dR_compared_26 : decode mR_compared.2.1 26 = .ok (.iconst 0, 1) := by decide +kernel
theorem dR_compared_27 : decode mR_compared.2.1 27 = .ok (.invokestatic 50, 3) := by decide +kernel
theorem dR_compared_30 : decode mR_compared.2.1 30 = .ok (.ireturn, 1) := by decide +kernel
theorem dR_compared_31 : decode mR_compared.2.1 31 = .ok (.aload_n 0, 1) := by decide +kernel
theorem dR_compared_32 : decode mR_compared.2.1 32 = .ok (.bipush 61, 2) := by decide +kernel
theorem dR_compared_34 : decode mR_compared.2.1 34 = .ok (.invokevirtual 46, 3) := by decide +kernel
theorem dR_compared_37 : decode mR_compared.2.1 37 = .ok (.ifCond .eq 20, 3) := by decide +kernel
theorem dR_compared_40 : decode mR_compared.2.1 40 = .ok (.iload_n 1, 1) := by decide +kernel
theorem dR_compared_41 : decode mR_compared.2.1 41 = .ok (.aload_n 0, 1) := by decide +kernel
theorem dR_compared_42 : decode mR_compared.2.1 42 = .ok (.invokevirtual 57, 3) := by decide +kernel
theorem dR_compared_45 : decode mR_compared.2.1 45 = .ok (.if_icmp .ne 7, 3) := by decide +kernel
theorem dR_compared_48 : decode mR_compared.2.1 48 = .ok (.iconst 1, 1) := by decide +kernel
theorem dR_compared_49 : decode mR_compared.2.1 49 = .ok (.goto 4, 3) := by decide +kernel
theorem dR_compared_52 : decode mR_compared.2.1 52 = .ok (.iconst 0, 1) := by decide +kernel
theorem dR_compared_53 : decode mR_compared.2.1 53 = .ok (.invokestatic 50, 3) := by decide +kernel
theorem dR_compared_56 : decode mR_compared.2.1 56 = .ok (.ireturn, 1) := by decide +kernel
theorem dR_compared_57 : decode mR_compared.2.1 57 = .ok (.aload_n 0, 1) := by decide +kernel
theorem dR_compared_58 : decode mR_compared.2.1 58 = .ok (.bipush 62, 2) := by decide +kernel
theorem dR_compared_60 : decode mR_compared.2.1 60 = .ok (.invokevirtual 46, 3) := by decide +kernel
theorem dR_compared_63 : decode mR_compared.2.1 63 = .ok (.ifCond .eq 20, 3) := by decide +kernel
theorem dR_compared_66 : decode mR_compared.2.1 66 = .ok (.iload_n 1, 1) := by decide +kernel
theorem dR_compared_67 : decode mR_compared.2.1 67 = .ok (.aload_n 0, 1) := by decide +kernel
theorem dR_compared_68 : decode mR_compared.2.1 68 = .ok (.invokevirtual 57, 3) := by decide +kernel
theorem dR_compared_71 : decode mR_compared.2.1 71 = .ok (.if_icmp .le 7, 3) := by decide +kernel
theorem dR_compared_74 : decode mR_compared.2.1 74 = .ok (.iconst 1, 1) := by decide +kernel
theorem dR_compared_75 : decode mR_compared.2.1 75 = .ok (.goto 4, 3) := by decide +kernel
theorem dR_compared_78 : decode mR_compared.2.1 78 = .ok (.iconst 0, 1) := by decide +kernel
theorem dR_compared_79 : decode mR_compared.2.1 79 = .ok (.invokestatic 50, 3) := by decide +kernel
theorem dR_compared_82 : decode mR_compared.2.1 82 = .ok (.ireturn, 1) := by decide +kernel
theorem dR_compared_83 : decode mR_compared.2.1 83 = .ok (.iload_n 1, 1) := by decide +kernel
theorem dR_compared_84 : decode mR_compared.2.1 84 = .ok (.ireturn, 1) := by decide +kernel
theorem dR_sum_0 : decode mR_sum.2.1 0 = .ok (.aload_n 0, 1) := by decide +kernel
theorem dR_sum_1 : decode mR_sum.2.1 1 = .ok (.invokevirtual 60, 3) := by decide +kernel
theorem dR_sum_4 : decode mR_sum.2.1 4 = .ok (.istore_n 1, 1) := by decide +kernel
theorem dR_sum_5 : decode mR_sum.2.1 5 = .ok (.iconst 0, 1) := by decide +kernel
theorem dR_sum_6 : decode mR_sum.2.1 6 = .ok (.istore_n 2, 1) := by decide +kernel
theorem dR_sum_7 : decode mR_sum.2.1 7 = .ok (.iload_n 2, 1) := by decide +kernel
theorem dR_sum_8 : decode mR_sum.2.1 8 = .ok (.bipush 60, 2) := by decide +kernel
theorem dR_sum_10 : decode mR_sum.2.1 10 = .ok (.if_icmp .ge 49, 3) := by decide +kernel
theorem dR_sum_13 : decode mR_sum.2.1 13 = .ok (.aload_n 0, 1) := by decide +kernel
theorem dR_sum_14 : decode mR_sum.2.1 14 = .ok (.bipush 43, 2) := by decide +kernel
theorem dR_sum_16 : decode mR_sum.2.1 16 = .ok (.invokevirtual 46, 3) := by decide +kernel
theorem dR_sum_19 : decode mR_sum.2.1 19 = .ok (.ifCond .eq 13, 3) := by decide +kernel
theorem dR_sum_22 : decode mR_sum.2.1 22 = .ok (.iload_n 1, 1) := by decide +kernel
theorem dR_sum_23 : decode mR_sum.2.1 23 = .ok (.aload_n 0, 1) := by decide +kernel
theorem dR_sum_24 : decode mR_sum.2.1 24 = .ok (.invokevirtual 60, 3) := by decide +kernel
theorem dR_sum_27 : decode mR_sum.2.1 27 = .ok (.iadd, 1) := by decide +kernel
theorem dR_sum_28 : decode mR_sum.2.1 28 = .ok (.istore_n 1, 1) := by decide +kernel
theorem dR_sum_29 : decode mR_sum.2.1 29 = .ok (.goto 24, 3) := by decide +kernel
theorem dR_sum_32 : decode mR_sum.2.1 32 = .ok (.aload_n 0, 1) := by decide +kernel
theorem dR_sum_33 : decode mR_sum.2.1 33 = .ok (.bipush 45, 2) := by decide +kernel
theorem dR_sum_35 : decode mR_sum.2.1 35 = .ok (.invokevirtual 46, 3) := by decide +kernel
theorem dR_sum_38 : decode mR_sum.2.1 38 = .ok (.ifCond .eq 13, 3) := by decide +kernel
theorem dR_sum_41 : decode mR_sum.2.1 41 = .ok (.iload_n 1, 1) := by decide +kernel
theorem dR_sum_42 : decode mR_sum.2.1 42 = .ok (.aload_n 0, 1) := by decide +kernel
theorem dR_sum_43 : decode mR_sum.2.1 43 = .ok (.invokevirtual 60, 3) := by decide +kernel
theorem dR_sum_46 : decode mR_sum.2.1 46 = .ok (.isub, 1) := by decide +kernel
theorem dR_sum_47 : decode mR_sum.2.1 47 = .ok (.istore_n 1, 1) := by decide +kernel
theorem dR_sum_48 : decode mR_sum.2.1 48 = .ok (.goto 5, 3) := by decide +kernel
theorem dR_sum_51 : decode mR_sum.2.1 51 = .ok (.iload_n 1, 1) := by decide +kernel
theorem dR_sum_52 : decode mR_sum.2.1 52 = .ok (.ireturn, 1) := by decide +kernel
theorem dR_sum_53 : decode mR_sum.2.1 53 = .ok (.iinc 2 1, 3) := by decide +kernel
theorem dR_sum_56 : decode mR_sum.2.1 56 = .ok (.goto (-49), 3) := by decide +kernel
theorem dR_sum_59 : decode mR_sum.2.1 59 = .ok (.iload_n 1, 1) := by decide +kernel
theorem dR_sum_60 : decode mR_sum.2.1 60 = .ok (.ireturn, 1) := by decide +kernel
theorem dR_product_0 : decode mR_product.2.1 0 = .ok (.aload_n 0, 1) := by decide +kernel
theorem dR_product_1 : decode mR_product.2.1 1 = .ok (.invokevirtual 63, 3) := by decide +kernel
theorem dR_product_4 : decode mR_product.2.1 4 = .ok (.istore_n 1, 1) := by decide +kernel
theorem dR_product_5 : decode mR_product.2.1 5 = .ok (.iconst 0, 1) := by decide +kernel
theorem dR_product_6 : decode mR_product.2.1 6 = .ok (.istore_n 2, 1) := by decide +kernel
theorem dR_product_7 : decode mR_product.2.1 7 = .ok (.iload_n 2, 1) := by decide +kernel
theorem dR_product_8 : decode mR_product.2.1 8 = .ok (.bipush 60, 2) := by decide +kernel
theorem dR_product_10 : decode mR_product.2.1 10 = .ok (.if_icmp .ge 59, 3) := by decide +kernel
theorem dR_product_13 : decode mR_product.2.1 13 = .ok (.aload_n 0, 1) := by decide +kernel
theorem dR_product_14 : decode mR_product.2.1 14 = .ok (.bipush 42, 2) := by decide +kernel
theorem dR_product_16 : decode mR_product.2.1 16 = .ok (.invokevirtual 46, 3) := by decide +kernel
theorem dR_product_19 : decode mR_product.2.1 19 = .ok (.ifCond .eq 13, 3) := by decide +kernel
theorem dR_product_22 : decode mR_product.2.1 22 = .ok (.iload_n 1, 1) := by decide +kernel
theorem dR_product_23 : decode mR_product.2.1 23 = .ok (.aload_n 0, 1) := by decide +kernel
theorem dR_product_24 : decode mR_product.2.1 24 = .ok (.invokevirtual 63, 3) := by decide +kernel
theorem dR_product_27 : decode mR_product.2.1 27 = .ok (.imul, 1) := by decide +kernel
theorem dR_product_28 : decode mR_product.2.1 28 = .ok (.istore_n 1, 1) := by decide +kernel
theorem dR_product_29 : decode mR_product.2.1 29 = .ok (.goto 34, 3) := by decide +kernel
theorem dR_product_32 : decode mR_product.2.1 32 = .ok (.aload_n 0, 1) := by decide +kernel
theorem dR_product_33 : decode mR_product.2.1 33 = .ok (.bipush 47, 2) := by decide +kernel
theorem dR_product_35 : decode mR_product.2.1 35 = .ok (.invokevirtual 46, 3) := by decide +kernel
theorem dR_product_38 : decode mR_product.2.1 38 = .ok (.ifCond .eq 23, 3) := by decide +kernel
theorem dR_product_41 : decode mR_product.2.1 41 = .ok (.aload_n 0, 1) := by decide +kernel
theorem dR_product_42 : decode mR_product.2.1 42 = .ok (.invokevirtual 63, 3) := by decide +kernel
theorem dR_product_45 : decode mR_product.2.1 45 = .ok (.istore_n 3, 1) := by decide +kernel
theorem dR_product_46 : decode mR_product.2.1 46 = .ok (.iload_n 3, 1) := by decide +kernel
theorem dR_product_47 : decode mR_product.2.1 47 = .ok (.ifCond .ne 7, 3) := by decide +kernel
theorem dR_product_50 : decode mR_product.2.1 50 = .ok (.iconst 0, 1) := by decide +kernel
theorem dR_product_51 : decode mR_product.2.1 51 = .ok (.goto 6, 3) := by decide +kernel
theorem dR_product_54 : decode mR_product.2.1 54 = .ok (.iload_n 1, 1) := by decide +kernel
theorem dR_product_55 : decode mR_product.2.1 55 = .ok (.iload_n 3, 1) := by decide +kernel
theorem dR_product_56 : decode mR_product.2.1 56 = .ok (.idiv, 1) := by decide +kernel
theorem dR_product_57 : decode mR_product.2.1 57 = .ok (.istore_n 1, 1) := by decide +kernel
theorem dR_product_58 : decode mR_product.2.1 58 = .ok (.goto 5, 3) := by decide +kernel
theorem dR_product_61 : decode mR_product.2.1 61 = .ok (.iload_n 1, 1) := by decide +kernel
theorem dR_product_62 : decode mR_product.2.1 62 = .ok (.ireturn, 1) := by decide +kernel
theorem dR_product_63 : decode mR_product.2.1 63 = .ok (.iinc 2 1, 3) := by decide +kernel
theorem dR_product_66 : decode mR_product.2.1 66 = .ok (.goto (-59), 3) := by decide +kernel
theorem dR_product_69 : decode mR_product.2.1 69 = .ok (.iload_n 1, 1) := by decide +kernel
theorem dR_product_70 : decode mR_product.2.1 70 = .ok (.ireturn, 1) := by decide +kernel
theorem dR_single_0 : decode mR_single.2.1 0 = .ok (.aload_n 0, 1) := by decide +kernel
theorem dR_single_1 : decode mR_single.2.1 1 = .ok (.invokevirtual 40, 3) := by decide +kernel
theorem dR_single_4 : decode mR_single.2.1 4 = .ok (.istore_n 1, 1) := by decide +kernel
theorem dR_single_5 : decode mR_single.2.1 5 = .ok (.iload_n 1, 1) := by decide +kernel
theorem dR_single_6 : decode mR_single.2.1 6 = .ok (.bipush 48, 2) := by decide +kernel
theorem dR_single_8 : decode mR_single.2.1 8 = .ok (.if_icmp .lt 14, 3) := by decide +kernel
theorem dR_single_11 : decode mR_single.2.1 11 = .ok (.iload_n 1, 1) := by decide +kernel
theorem dR_single_12 : decode mR_single.2.1 12 = .ok (.bipush 57, 2) := by decide +kernel
theorem dR_single_14 : decode mR_single.2.1 14 = .ok (.if_icmp .gt 8, 3) := by decide +kernel
theorem dR_single_17 : decode mR_single.2.1 17 = .ok (.aload_n 0, 1) := by decide +kernel
theorem dR_single_18 : decode mR_single.2.1 18 = .ok (.invokevirtual 66, 3) := by decide +kernel
theorem dR_single_21 : decode mR_single.2.1 21 = .ok (.ireturn, 1) := by decide +kernel
theorem dR_single_22 : decode mR_single.2.1 22 = .ok (.iload_n 1, 1) := by decide +kernel
theorem dR_single_23 : decode mR_single.2.1 23 = .ok (.bipush 33, 2) := by decide +kernel
theorem dR_single_25 : decode mR_single.2.1 25 = .ok (.if_icmp .eq 9, 3) := by decide +kernel
theorem dR_single_28 : decode mR_single.2.1 28 = .ok (.iload_n 1, 1) := by decide +kernel
theorem dR_single_29 : decode mR_single.2.1 29 = .ok (.bipush 40, 2) := by decide +kernel
theorem dR_single_31 : decode mR_single.2.1 31 = .ok (.if_icmp .ne 9, 3) := by decide +kernel
theorem dR_single_34 : decode mR_single.2.1 34 = .ok (.aload_n 0, 1) := by decide +kernel
theorem dR_single_35 : decode mR_single.2.1 35 = .ok (.iload_n 1, 1) := by decide +kernel
theorem dR_single_36 : decode mR_single.2.1 36 = .ok (.invokevirtual 69, 3) := by decide +kernel
theorem dR_single_39 : decode mR_single.2.1 39 = .ok (.ireturn, 1) := by decide +kernel
theorem dR_single_40 : decode mR_single.2.1 40 = .ok (.iload_n 1, 1) := by decide +kernel
theorem dR_single_41 : decode mR_single.2.1 41 = .ok (.invokestatic 73, 3) := by decide +kernel
theorem dR_single_44 : decode mR_single.2.1 44 = .ok (.istore_n 2, 1) := by decide +kernel
theorem dR_single_45 : decode mR_single.2.1 45 = .ok (.iload_n 2, 1) := by decide +kernel
theorem dR_single_46 : decode mR_single.2.1 46 = .ok (.ifCond .ge 10, 3) := by decide +kernel
theorem dR_single_49 : decode mR_single.2.1 49 = .ok (.aload_n 0, 1) := by decide +kernel
theorem dR_single_50 : decode mR_single.2.1 50 = .ok (.iconst 1, 1) := by decide +kernel
theorem dR_single_51 : decode mR_single.2.1 51 = .ok (.putfield 32, 3) := by decide +kernel
theorem dR_single_54 : decode mR_single.2.1 54 = .ok (.iconst 0, 1) := by decide +kernel
theorem dR_single_55 : decode mR_single.2.1 55 = .ok (.ireturn, 1) := by decide +kernel
theorem dR_single_56 : decode mR_single.2.1 56 = .ok (.aload_n 0, 1) := by decide +kernel
theorem dR_single_57 : decode mR_single.2.1 57 = .ok (.dup, 1) := by decide +kernel
theorem dR_single_58 : decode mR_single.2.1 58 = .ok (.getfield 26, 3) := by decide +kernel
theorem dR_single_61 : decode mR_single.2.1 61 = .ok (.iconst 1, 1) := by decide +kernel
theorem dR_single_62 : decode mR_single.2.1 62 = .ok (.iadd, 1) := by decide +kernel
theorem dR_single_63 : decode mR_single.2.1 63 = .ok (.putfield 26, 3) := by decide +kernel
theorem dR_single_66 : decode mR_single.2.1 66 = .ok (.aload_n 0, 1) := by decide +kernel
theorem dR_single_67 : decode mR_single.2.1 67 = .ok (.getfield 9, 3) := by decide +kernel
theorem dR_single_70 : decode mR_single.2.1 70 = .ok (.iload_n 2, 1) := by decide +kernel
theorem dR_single_71 : decode mR_single.2.1 71 = .ok (.iaload, 1) := by decide +kernel
theorem dR_single_72 : decode mR_single.2.1 72 = .ok (.ireturn, 1) := by decide +kernel
theorem dR_next_0 : decode mR_next.2.1 0 = .ok (.aload_n 0, 1) := by decide +kernel
theorem dR_next_1 : decode mR_next.2.1 1 = .ok (.getfield 32, 3) := by decide +kernel
theorem dR_next_4 : decode mR_next.2.1 4 = .ok (.ifCond .ne 49, 3) := by decide +kernel
theorem dR_next_7 : decode mR_next.2.1 7 = .ok (.aload_n 0, 1) := by decide +kernel
theorem dR_next_8 : decode mR_next.2.1 8 = .ok (.getfield 26, 3) := by decide +kernel
theorem dR_next_11 : decode mR_next.2.1 11 = .ok (.ifCond .lt 42, 3) := by decide +kernel
theorem dR_next_14 : decode mR_next.2.1 14 = .ok (.aload_n 0, 1) := by decide +kernel
theorem dR_next_15 : decode mR_next.2.1 15 = .ok (.getfield 26, 3) := by decide +kernel
theorem dR_next_18 : decode mR_next.2.1 18 = .ok (.aload_n 0, 1) := by decide +kernel
theorem dR_next_19 : decode mR_next.2.1 19 = .ok (.getfield 23, 3) := by decide +kernel
theorem dR_next_22 : decode mR_next.2.1 22 = .ok (.if_icmp .ge 31, 3) := by decide +kernel
theorem dR_next_25 : decode mR_next.2.1 25 = .ok (.aload_n 0, 1) := by decide +kernel
theorem dR_next_26 : decode mR_next.2.1 26 = .ok (.getfield 26, 3) := by decide +kernel
theorem dR_next_29 : decode mR_next.2.1 29 = .ok (.aload_n 0, 1) := by decide +kernel
theorem dR_next_30 : decode mR_next.2.1 30 = .ok (.getfield 15, 3) := by decide +kernel
theorem dR_next_33 : decode mR_next.2.1 33 = .ok (.arraylength, 1) := by decide +kernel
theorem dR_next_34 : decode mR_next.2.1 34 = .ok (.if_icmp .ge 19, 3) := by decide +kernel
theorem dR_next_37 : decode mR_next.2.1 37 = .ok (.aload_n 0, 1) := by decide +kernel
theorem dR_next_38 : decode mR_next.2.1 38 = .ok (.getfield 15, 3) := by decide +kernel
theorem dR_next_41 : decode mR_next.2.1 41 = .ok (.aload_n 0, 1) := by decide +kernel
theorem dR_next_42 : decode mR_next.2.1 42 = .ok (.getfield 26, 3) := by decide +kernel
theorem dR_next_45 : decode mR_next.2.1 45 = .ok (.baload, 1) := by decide +kernel
theorem dR_next_46 : decode mR_next.2.1 46 = .ok (.sipush 255, 3) := by decide +kernel
theorem dR_next_49 : decode mR_next.2.1 49 = .ok (.iand, 1) := by decide +kernel
theorem dR_next_50 : decode mR_next.2.1 50 = .ok (.goto 4, 3) := by decide +kernel
theorem dR_next_53 : decode mR_next.2.1 53 = .ok (.iconst (-1), 1) := by decide +kernel
theorem dR_next_54 : decode mR_next.2.1 54 = .ok (.ireturn, 1) := by decide +kernel
theorem dR_number_0 : decode mR_number.2.1 0 = .ok (.iconst 0, 1) := by decide +kernel
theorem dR_number_1 : decode mR_number.2.1 1 = .ok (.istore_n 1, 1) := by decide +kernel
theorem dR_number_2 : decode mR_number.2.1 2 = .ok (.iconst 0, 1) := by decide +kernel
theorem dR_number_3 : decode mR_number.2.1 3 = .ok (.istore_n 2, 1) := by decide +kernel
theorem dR_number_4 : decode mR_number.2.1 4 = .ok (.iload_n 2, 1) := by decide +kernel
theorem dR_number_5 : decode mR_number.2.1 5 = .ok (.iconst 4, 1) := by decide +kernel
theorem dR_number_6 : decode mR_number.2.1 6 = .ok (.if_icmp .ge 50, 3) := by decide +kernel
theorem dR_number_9 : decode mR_number.2.1 9 = .ok (.aload_n 0, 1) := by decide +kernel
theorem dR_number_10 : decode mR_number.2.1 10 = .ok (.invokevirtual 40, 3) := by decide +kernel
theorem dR_number_13 : decode mR_number.2.1 13 = .ok (.bipush 48, 2) := by decide +kernel
theorem dR_number_15 : decode mR_number.2.1 15 = .ok (.if_icmp .lt 41, 3) := by decide +kernel
theorem dR_number_18 : decode mR_number.2.1 18 = .ok (.aload_n 0, 1) := by decide +kernel
theorem dR_number_19 : decode mR_number.2.1 19 = .ok (.invokevirtual 40, 3) := by decide +kernel
theorem dR_number_22 : decode mR_number.2.1 22 = .ok (.bipush 57, 2) := by decide +kernel
theorem dR_number_24 : decode mR_number.2.1 24 = .ok (.if_icmp .gt 32, 3) := by decide +kernel
theorem dR_number_27 : decode mR_number.2.1 27 = .ok (.iload_n 1, 1) := by decide +kernel
theorem dR_number_28 : decode mR_number.2.1 28 = .ok (.bipush 10, 2) := by decide +kernel
theorem dR_number_30 : decode mR_number.2.1 30 = .ok (.imul, 1) := by decide +kernel
theorem dR_number_31 : decode mR_number.2.1 31 = .ok (.aload_n 0, 1) := by decide +kernel
theorem dR_number_32 : decode mR_number.2.1 32 = .ok (.invokevirtual 40, 3) := by decide +kernel
theorem dR_number_35 : decode mR_number.2.1 35 = .ok (.iadd, 1) := by decide +kernel
theorem dR_number_36 : decode mR_number.2.1 36 = .ok (.bipush 48, 2) := by decide +kernel
theorem dR_number_38 : decode mR_number.2.1 38 = .ok (.isub, 1) := by decide +kernel
theorem dR_number_39 : decode mR_number.2.1 39 = .ok (.istore_n 1, 1) := by decide +kernel
theorem dR_number_40 : decode mR_number.2.1 40 = .ok (.aload_n 0, 1) := by decide +kernel
theorem dR_number_41 : decode mR_number.2.1 41 = .ok (.dup, 1) := by decide +kernel
theorem dR_number_42 : decode mR_number.2.1 42 = .ok (.getfield 26, 3) := by decide +kernel
theorem dR_number_45 : decode mR_number.2.1 45 = .ok (.iconst 1, 1) := by decide +kernel
theorem dR_number_46 : decode mR_number.2.1 46 = .ok (.iadd, 1) := by decide +kernel
theorem dR_number_47 : decode mR_number.2.1 47 = .ok (.putfield 26, 3) := by decide +kernel
theorem dR_number_50 : decode mR_number.2.1 50 = .ok (.iinc 2 1, 3) := by decide +kernel
theorem dR_number_53 : decode mR_number.2.1 53 = .ok (.goto (-49), 3) := by decide +kernel
theorem dR_number_56 : decode mR_number.2.1 56 = .ok (.iload_n 1, 1) := by decide +kernel
theorem dR_number_57 : decode mR_number.2.1 57 = .ok (.ireturn, 1) := by decide +kernel
theorem dR_opened_0 : decode mR_opened.2.1 0 = .ok (.aload_n 0, 1) := by decide +kernel
theorem dR_opened_1 : decode mR_opened.2.1 1 = .ok (.getfield 29, 3) := by decide +kernel
theorem dR_opened_4 : decode mR_opened.2.1 4 = .ok (.iconst 5, 1) := by decide +kernel
theorem dR_opened_5 : decode mR_opened.2.1 5 = .ok (.if_icmp .lt 10, 3) := by decide +kernel
theorem dR_opened_8 : decode mR_opened.2.1 8 = .ok (.aload_n 0, 1) := by decide +kernel
theorem dR_opened_9 : decode mR_opened.2.1 9 = .ok (.iconst 1, 1) := by decide +kernel
theorem dR_opened_10 : decode mR_opened.2.1 10 = .ok (.putfield 32, 3) := by decide +kernel
theorem dR_opened_13 : decode mR_opened.2.1 13 = .ok (.iconst 0, 1) := by decide +kernel
theorem dR_opened_14 : decode mR_opened.2.1 14 = .ok (.ireturn, 1) := by decide +kernel
theorem dR_opened_15 : decode mR_opened.2.1 15 = .ok (.aload_n 0, 1) := by decide +kernel
theorem dR_opened_16 : decode mR_opened.2.1 16 = .ok (.dup, 1) := by decide +kernel
theorem dR_opened_17 : decode mR_opened.2.1 17 = .ok (.getfield 29, 3) := by decide +kernel
theorem dR_opened_20 : decode mR_opened.2.1 20 = .ok (.iconst 1, 1) := by decide +kernel
theorem dR_opened_21 : decode mR_opened.2.1 21 = .ok (.iadd, 1) := by decide +kernel
theorem dR_opened_22 : decode mR_opened.2.1 22 = .ok (.putfield 29, 3) := by decide +kernel
theorem dR_opened_25 : decode mR_opened.2.1 25 = .ok (.aload_n 0, 1) := by decide +kernel
theorem dR_opened_26 : decode mR_opened.2.1 26 = .ok (.dup, 1) := by decide +kernel
theorem dR_opened_27 : decode mR_opened.2.1 27 = .ok (.getfield 26, 3) := by decide +kernel
theorem dR_opened_30 : decode mR_opened.2.1 30 = .ok (.iconst 1, 1) := by decide +kernel
theorem dR_opened_31 : decode mR_opened.2.1 31 = .ok (.iadd, 1) := by decide +kernel
theorem dR_opened_32 : decode mR_opened.2.1 32 = .ok (.putfield 26, 3) := by decide +kernel
theorem dR_opened_35 : decode mR_opened.2.1 35 = .ok (.iload_n 1, 1) := by decide +kernel
theorem dR_opened_36 : decode mR_opened.2.1 36 = .ok (.bipush 33, 2) := by decide +kernel
theorem dR_opened_38 : decode mR_opened.2.1 38 = .ok (.if_icmp .ne 21, 3) := by decide +kernel
theorem dR_opened_41 : decode mR_opened.2.1 41 = .ok (.aload_n 0, 1) := by decide +kernel
theorem dR_opened_42 : decode mR_opened.2.1 42 = .ok (.invokevirtual 63, 3) := by decide +kernel
theorem dR_opened_45 : decode mR_opened.2.1 45 = .ok (.ifCond .ne 7, 3) := by decide +kernel
theorem dR_opened_48 : decode mR_opened.2.1 48 = .ok (.iconst 1, 1) := by decide +kernel
theorem dR_opened_49 : decode mR_opened.2.1 49 = .ok (.goto 4, 3) := by decide +kernel
theorem dR_opened_52 : decode mR_opened.2.1 52 = .ok (.iconst 0, 1) := by decide +kernel
theorem dR_opened_53 : decode mR_opened.2.1 53 = .ok (.invokestatic 50, 3) := by decide +kernel
theorem dR_opened_56 : decode mR_opened.2.1 56 = .ok (.goto 7, 3) := by decide +kernel
theorem dR_opened_59 : decode mR_opened.2.1 59 = .ok (.aload_n 0, 1) := by decide +kernel
theorem dR_opened_60 : decode mR_opened.2.1 60 = .ok (.invokevirtual 36, 3) := by decide +kernel
theorem dR_opened_63 : decode mR_opened.2.1 63 = .ok (.istore_n 2, 1) := by decide +kernel
theorem dR_opened_64 : decode mR_opened.2.1 64 = .ok (.iload_n 1, 1) := by decide +kernel
theorem dR_opened_65 : decode mR_opened.2.1 65 = .ok (.bipush 40, 2) := by decide +kernel
theorem dR_opened_67 : decode mR_opened.2.1 67 = .ok (.if_icmp .ne 17, 3) := by decide +kernel
theorem dR_opened_70 : decode mR_opened.2.1 70 = .ok (.aload_n 0, 1) := by decide +kernel
theorem dR_opened_71 : decode mR_opened.2.1 71 = .ok (.bipush 41, 2) := by decide +kernel
theorem dR_opened_73 : decode mR_opened.2.1 73 = .ok (.invokevirtual 46, 3) := by decide +kernel
theorem dR_opened_76 : decode mR_opened.2.1 76 = .ok (.ifCond .ne 8, 3) := by decide +kernel
theorem dR_opened_79 : decode mR_opened.2.1 79 = .ok (.aload_n 0, 1) := by decide +kernel
theorem dR_opened_80 : decode mR_opened.2.1 80 = .ok (.iconst 1, 1) := by decide +kernel
theorem dR_opened_81 : decode mR_opened.2.1 81 = .ok (.putfield 32, 3) := by decide +kernel
theorem dR_opened_84 : decode mR_opened.2.1 84 = .ok (.aload_n 0, 1) := by decide +kernel
theorem dR_opened_85 : decode mR_opened.2.1 85 = .ok (.dup, 1) := by decide +kernel
theorem dR_opened_86 : decode mR_opened.2.1 86 = .ok (.getfield 29, 3) := by decide +kernel
theorem dR_opened_89 : decode mR_opened.2.1 89 = .ok (.iconst 1, 1) := by decide +kernel
theorem dR_opened_90 : decode mR_opened.2.1 90 = .ok (.isub, 1) := by decide +kernel
theorem dR_opened_91 : decode mR_opened.2.1 91 = .ok (.putfield 29, 3) := by decide +kernel
theorem dR_opened_94 : decode mR_opened.2.1 94 = .ok (.iload_n 2, 1) := by decide +kernel
theorem dR_opened_95 : decode mR_opened.2.1 95 = .ok (.ireturn, 1) := by decide +kernel
theorem dR_truth_0 : decode mR_truth.2.1 0 = .ok (.iload_n 0, 1) := by decide +kernel
theorem dR_truth_1 : decode mR_truth.2.1 1 = .ok (.ifCond .eq 7, 3) := by decide +kernel
theorem dR_truth_4 : decode mR_truth.2.1 4 = .ok (.iconst 1, 1) := by decide +kernel
theorem dR_truth_5 : decode mR_truth.2.1 5 = .ok (.goto 4, 3) := by decide +kernel
theorem dR_truth_8 : decode mR_truth.2.1 8 = .ok (.iconst 0, 1) := by decide +kernel
theorem dR_truth_9 : decode mR_truth.2.1 9 = .ok (.ireturn, 1) := by decide +kernel
theorem dR_skip_0 : decode mR_skip.2.1 0 = .ok (.aload_n 0, 1) := by decide +kernel
theorem dR_skip_1 : decode mR_skip.2.1 1 = .ok (.invokevirtual 40, 3) := by decide +kernel
theorem dR_skip_4 : decode mR_skip.2.1 4 = .ok (.iload_n 1, 1) := by decide +kernel
theorem dR_skip_5 : decode mR_skip.2.1 5 = .ok (.if_icmp .eq 5, 3) := by decide +kernel
theorem dR_skip_8 : decode mR_skip.2.1 8 = .ok (.iconst 0, 1) := by decide +kernel
theorem dR_skip_9 : decode mR_skip.2.1 9 = .ok (.ireturn, 1) := by decide +kernel
theorem dR_skip_10 : decode mR_skip.2.1 10 = .ok (.aload_n 0, 1) := by decide +kernel
theorem dR_skip_11 : decode mR_skip.2.1 11 = .ok (.dup, 1) := by decide +kernel
theorem dR_skip_12 : decode mR_skip.2.1 12 = .ok (.getfield 26, 3) := by decide +kernel
theorem dR_skip_15 : decode mR_skip.2.1 15 = .ok (.iconst 1, 1) := by decide +kernel
theorem dR_skip_16 : decode mR_skip.2.1 16 = .ok (.iadd, 1) := by decide +kernel
theorem dR_skip_17 : decode mR_skip.2.1 17 = .ok (.putfield 26, 3) := by decide +kernel
theorem dR_skip_20 : decode mR_skip.2.1 20 = .ok (.iconst 1, 1) := by decide +kernel
theorem dR_skip_21 : decode mR_skip.2.1 21 = .ok (.ireturn, 1) := by decide +kernel
theorem dR_nameOf_0 : decode mR_nameOf.2.1 0 = .ok (.iload_n 0, 1) := by decide +kernel
theorem dR_nameOf_1 : decode mR_nameOf.2.1 1 = .ok (.tableswitch 99 99 116 #[87, 89, 99, 97, 99, 99, 99, 99, 91, 99, 99, 93, 99, 99, 99, 99, 99, 95], 87) := by decide +kernel
theorem dR_nameOf_88 : decode mR_nameOf.2.1 88 = .ok (.iconst 0, 1) := by decide +kernel
theorem dR_nameOf_89 : decode mR_nameOf.2.1 89 = .ok (.ireturn, 1) := by decide +kernel
theorem dR_nameOf_90 : decode mR_nameOf.2.1 90 = .ok (.iconst 1, 1) := by decide +kernel
theorem dR_nameOf_91 : decode mR_nameOf.2.1 91 = .ok (.ireturn, 1) := by decide +kernel
theorem dR_nameOf_92 : decode mR_nameOf.2.1 92 = .ok (.iconst 2, 1) := by decide +kernel
theorem dR_nameOf_93 : decode mR_nameOf.2.1 93 = .ok (.ireturn, 1) := by decide +kernel
theorem dR_nameOf_94 : decode mR_nameOf.2.1 94 = .ok (.iconst 3, 1) := by decide +kernel
theorem dR_nameOf_95 : decode mR_nameOf.2.1 95 = .ok (.ireturn, 1) := by decide +kernel
theorem dR_nameOf_96 : decode mR_nameOf.2.1 96 = .ok (.iconst 4, 1) := by decide +kernel
theorem dR_nameOf_97 : decode mR_nameOf.2.1 97 = .ok (.ireturn, 1) := by decide +kernel
theorem dR_nameOf_98 : decode mR_nameOf.2.1 98 = .ok (.iconst 5, 1) := by decide +kernel
theorem dR_nameOf_99 : decode mR_nameOf.2.1 99 = .ok (.ireturn, 1) := by decide +kernel
theorem dR_nameOf_100 : decode mR_nameOf.2.1 100 = .ok (.iconst (-1), 1) := by decide +kernel
theorem dR_nameOf_101 : decode mR_nameOf.2.1 101 = .ok (.ireturn, 1) := by decide +kernel
theorem dR_fault_0 : decode mR_fault.2.1 0 = .ok (.aload_n 0, 1) := by decide +kernel
theorem dR_fault_1 : decode mR_fault.2.1 1 = .ok (.getfield 32, 3) := by decide +kernel
theorem dR_fault_4 : decode mR_fault.2.1 4 = .ok (.ifCond .eq 15, 3) := by decide +kernel
theorem dR_fault_7 : decode mR_fault.2.1 7 = .ok (.aload_n 0, 1) := by decide +kernel
theorem dR_fault_8 : decode mR_fault.2.1 8 = .ok (.getfield 26, 3) := by decide +kernel
theorem dR_fault_11 : decode mR_fault.2.1 11 = .ok (.aload_n 0, 1) := by decide +kernel
theorem dR_fault_12 : decode mR_fault.2.1 12 = .ok (.getfield 19, 3) := by decide +kernel
theorem dR_fault_15 : decode mR_fault.2.1 15 = .ok (.isub, 1) := by decide +kernel
theorem dR_fault_16 : decode mR_fault.2.1 16 = .ok (.goto 4, 3) := by decide +kernel
theorem dR_fault_19 : decode mR_fault.2.1 19 = .ok (.iconst (-1), 1) := by decide +kernel
theorem dR_fault_20 : decode mR_fault.2.1 20 = .ok (.ireturn, 1) := by decide +kernel
theorem dS_init_0 : decode mS_init.2.1 0 = .ok (.aload_n 0, 1) := by decide +kernel
theorem dS_init_1 : decode mS_init.2.1 1 = .ok (.invokespecial 3, 3) := by decide +kernel
theorem dS_init_4 : decode mS_init.2.1 4 = .ok (.aload_n 0, 1) := by decide +kernel
theorem dS_init_5 : decode mS_init.2.1 5 = .ok (.bipush 24, 2) := by decide +kernel
theorem dS_init_7 : decode mS_init.2.1 7 = .ok (.newarray .int, 2) := by decide +kernel
theorem dS_init_9 : decode mS_init.2.1 9 = .ok (.putfield 9, 3) := by decide +kernel
theorem dS_init_12 : decode mS_init.2.1 12 = .ok (.aload_n 0, 1) := by decide +kernel
theorem dS_init_13 : decode mS_init.2.1 13 = .ok (.iconst 0, 1) := by decide +kernel
theorem dS_init_14 : decode mS_init.2.1 14 = .ok (.putfield 15, 3) := by decide +kernel
theorem dS_init_17 : decode mS_init.2.1 17 = .ok (.aload_n 0, 1) := by decide +kernel
theorem dS_init_18 : decode mS_init.2.1 18 = .ok (.iconst 0, 1) := by decide +kernel
theorem dS_init_19 : decode mS_init.2.1 19 = .ok (.putfield 19, 3) := by decide +kernel
theorem dS_init_22 : decode mS_init.2.1 22 = .ok (.return_, 1) := by decide +kernel
theorem dS_renew_0 : decode mS_renew.2.1 0 = .ok (.aload_n 0, 1) := by decide +kernel
theorem dS_renew_1 : decode mS_renew.2.1 1 = .ok (.iload_n 1, 1) := by decide +kernel
theorem dS_renew_2 : decode mS_renew.2.1 2 = .ok (.putfield 15, 3) := by decide +kernel
theorem dS_renew_5 : decode mS_renew.2.1 5 = .ok (.aload_n 0, 1) := by decide +kernel
theorem dS_renew_6 : decode mS_renew.2.1 6 = .ok (.iload_n 2, 1) := by decide +kernel
theorem dS_renew_7 : decode mS_renew.2.1 7 = .ok (.putfield 19, 3) := by decide +kernel
theorem dS_renew_10 : decode mS_renew.2.1 10 = .ok (.iconst 0, 1) := by decide +kernel
theorem dS_renew_11 : decode mS_renew.2.1 11 = .ok (.istore_n 3, 1) := by decide +kernel
theorem dS_renew_12 : decode mS_renew.2.1 12 = .ok (.iload_n 3, 1) := by decide +kernel
theorem dS_renew_13 : decode mS_renew.2.1 13 = .ok (.bipush 24, 2) := by decide +kernel
theorem dS_renew_15 : decode mS_renew.2.1 15 = .ok (.if_icmp .ge 16, 3) := by decide +kernel
theorem dS_renew_18 : decode mS_renew.2.1 18 = .ok (.aload_n 0, 1) := by decide +kernel
theorem dS_renew_19 : decode mS_renew.2.1 19 = .ok (.getfield 9, 3) := by decide +kernel
theorem dS_renew_22 : decode mS_renew.2.1 22 = .ok (.iload_n 3, 1) := by decide +kernel
theorem dS_renew_23 : decode mS_renew.2.1 23 = .ok (.iconst 0, 1) := by decide +kernel
theorem dS_renew_24 : decode mS_renew.2.1 24 = .ok (.iastore, 1) := by decide +kernel
theorem dS_renew_25 : decode mS_renew.2.1 25 = .ok (.iinc 3 1, 3) := by decide +kernel
theorem dS_renew_28 : decode mS_renew.2.1 28 = .ok (.goto (-16), 3) := by decide +kernel
theorem dS_renew_31 : decode mS_renew.2.1 31 = .ok (.return_, 1) := by decide +kernel
theorem dS_cut_0 : decode mS_cut.2.1 0 = .ok (.aload_n 0, 1) := by decide +kernel
theorem dS_cut_1 : decode mS_cut.2.1 1 = .ok (.getfield 15, 3) := by decide +kernel
theorem dS_cut_4 : decode mS_cut.2.1 4 = .ok (.bipush 8, 2) := by decide +kernel
theorem dS_cut_6 : decode mS_cut.2.1 6 = .ok (.if_icmp .ne 6, 3) := by decide +kernel
theorem dS_cut_9 : decode mS_cut.2.1 9 = .ok (.iload_n 1, 1) := by decide +kernel
theorem dS_cut_10 : decode mS_cut.2.1 10 = .ok (.i2b, 1) := by decide +kernel
theorem dS_cut_11 : decode mS_cut.2.1 11 = .ok (.ireturn, 1) := by decide +kernel
theorem dS_cut_12 : decode mS_cut.2.1 12 = .ok (.aload_n 0, 1) := by decide +kernel
theorem dS_cut_13 : decode mS_cut.2.1 13 = .ok (.getfield 15, 3) := by decide +kernel
theorem dS_cut_16 : decode mS_cut.2.1 16 = .ok (.bipush 16, 2) := by decide +kernel
theorem dS_cut_18 : decode mS_cut.2.1 18 = .ok (.if_icmp .ne 8, 3) := by decide +kernel
theorem dS_cut_21 : decode mS_cut.2.1 21 = .ok (.iload_n 1, 1) := by decide +kernel
theorem dS_cut_22 : decode mS_cut.2.1 22 = .ok (.i2s, 1) := by decide +kernel
theorem dS_cut_23 : decode mS_cut.2.1 23 = .ok (.goto 4, 3) := by decide +kernel
theorem dS_cut_26 : decode mS_cut.2.1 26 = .ok (.iload_n 1, 1) := by decide +kernel
theorem dS_cut_27 : decode mS_cut.2.1 27 = .ok (.ireturn, 1) := by decide +kernel
theorem dT_init_0 : decode mT_init.2.1 0 = .ok (.aload_n 0, 1) := by decide +kernel
theorem dT_init_1 : decode mT_init.2.1 1 = .ok (.invokespecial 1, 3) := by decide +kernel
theorem dT_init_4 : decode mT_init.2.1 4 = .ok (.aload_n 0, 1) := by decide +kernel
theorem dT_init_5 : decode mT_init.2.1 5 = .ok (.new 7, 3) := by decide +kernel
theorem dT_init_8 : decode mT_init.2.1 8 = .ok (.dup, 1) := by decide +kernel
theorem dT_init_9 : decode mT_init.2.1 9 = .ok (.invokespecial 9, 3) := by decide +kernel
theorem dT_init_12 : decode mT_init.2.1 12 = .ok (.putfield 10, 3) := by decide +kernel
theorem dT_init_15 : decode mT_init.2.1 15 = .ok (.aload_n 0, 1) := by decide +kernel
theorem dT_init_16 : decode mT_init.2.1 16 = .ok (.new 16, 3) := by decide +kernel
theorem dT_init_19 : decode mT_init.2.1 19 = .ok (.dup, 1) := by decide +kernel
theorem dT_init_20 : decode mT_init.2.1 20 = .ok (.invokespecial 18, 3) := by decide +kernel
theorem dT_init_23 : decode mT_init.2.1 23 = .ok (.putfield 19, 3) := by decide +kernel
theorem dT_init_26 : decode mT_init.2.1 26 = .ok (.aload_n 0, 1) := by decide +kernel
theorem dT_init_27 : decode mT_init.2.1 27 = .ok (.new 23, 3) := by decide +kernel
theorem dT_init_30 : decode mT_init.2.1 30 = .ok (.dup, 1) := by decide +kernel
theorem dT_init_31 : decode mT_init.2.1 31 = .ok (.invokespecial 25, 3) := by decide +kernel
theorem dT_init_34 : decode mT_init.2.1 34 = .ok (.putfield 26, 3) := by decide +kernel
theorem dT_init_37 : decode mT_init.2.1 37 = .ok (.aload_n 0, 1) := by decide +kernel
theorem dT_init_38 : decode mT_init.2.1 38 = .ok (.new 30, 3) := by decide +kernel
theorem dT_init_41 : decode mT_init.2.1 41 = .ok (.dup, 1) := by decide +kernel
theorem dT_init_42 : decode mT_init.2.1 42 = .ok (.invokespecial 32, 3) := by decide +kernel
theorem dT_init_45 : decode mT_init.2.1 45 = .ok (.putfield 33, 3) := by decide +kernel
theorem dT_init_48 : decode mT_init.2.1 48 = .ok (.aload_n 0, 1) := by decide +kernel
theorem dT_init_49 : decode mT_init.2.1 49 = .ok (.new 37, 3) := by decide +kernel
theorem dT_init_52 : decode mT_init.2.1 52 = .ok (.dup, 1) := by decide +kernel
theorem dT_init_53 : decode mT_init.2.1 53 = .ok (.invokespecial 39, 3) := by decide +kernel
theorem dT_init_56 : decode mT_init.2.1 56 = .ok (.putfield 40, 3) := by decide +kernel
theorem dT_init_59 : decode mT_init.2.1 59 = .ok (.aload_n 0, 1) := by decide +kernel
theorem dT_init_60 : decode mT_init.2.1 60 = .ok (.iconst 0, 1) := by decide +kernel
theorem dT_init_61 : decode mT_init.2.1 61 = .ok (.putfield 44, 3) := by decide +kernel
theorem dT_init_64 : decode mT_init.2.1 64 = .ok (.return_, 1) := by decide +kernel
theorem dT_copy_0 : decode mT_copy.2.1 0 = .ok (.aload_n 0, 1) := by decide +kernel
theorem dT_copy_1 : decode mT_copy.2.1 1 = .ok (.getfield 10, 3) := by decide +kernel
theorem dT_copy_4 : decode mT_copy.2.1 4 = .ok (.aload_n 1, 1) := by decide +kernel
theorem dT_copy_5 : decode mT_copy.2.1 5 = .ok (.getfield 10, 3) := by decide +kernel
theorem dT_copy_8 : decode mT_copy.2.1 8 = .ok (.invokevirtual 48, 3) := by decide +kernel
theorem dT_copy_11 : decode mT_copy.2.1 11 = .ok (.aload_n 0, 1) := by decide +kernel
theorem dT_copy_12 : decode mT_copy.2.1 12 = .ok (.getfield 19, 3) := by decide +kernel
theorem dT_copy_15 : decode mT_copy.2.1 15 = .ok (.aload_n 1, 1) := by decide +kernel
theorem dT_copy_16 : decode mT_copy.2.1 16 = .ok (.getfield 19, 3) := by decide +kernel
theorem dT_copy_19 : decode mT_copy.2.1 19 = .ok (.invokevirtual 52, 3) := by decide +kernel
theorem dT_copy_22 : decode mT_copy.2.1 22 = .ok (.aload_n 0, 1) := by decide +kernel
theorem dT_copy_23 : decode mT_copy.2.1 23 = .ok (.getfield 26, 3) := by decide +kernel
theorem dT_copy_26 : decode mT_copy.2.1 26 = .ok (.aload_n 1, 1) := by decide +kernel
theorem dT_copy_27 : decode mT_copy.2.1 27 = .ok (.getfield 26, 3) := by decide +kernel
theorem dT_copy_30 : decode mT_copy.2.1 30 = .ok (.invokevirtual 55, 3) := by decide +kernel
theorem dT_copy_33 : decode mT_copy.2.1 33 = .ok (.aload_n 0, 1) := by decide +kernel
theorem dT_copy_34 : decode mT_copy.2.1 34 = .ok (.getfield 33, 3) := by decide +kernel
theorem dT_copy_37 : decode mT_copy.2.1 37 = .ok (.aload_n 1, 1) := by decide +kernel
theorem dT_copy_38 : decode mT_copy.2.1 38 = .ok (.getfield 33, 3) := by decide +kernel
theorem dT_copy_41 : decode mT_copy.2.1 41 = .ok (.invokevirtual 58, 3) := by decide +kernel
theorem dT_copy_44 : decode mT_copy.2.1 44 = .ok (.aload_n 0, 1) := by decide +kernel
theorem dT_copy_45 : decode mT_copy.2.1 45 = .ok (.getfield 40, 3) := by decide +kernel
theorem dT_copy_48 : decode mT_copy.2.1 48 = .ok (.aload_n 1, 1) := by decide +kernel
theorem dT_copy_49 : decode mT_copy.2.1 49 = .ok (.getfield 40, 3) := by decide +kernel
theorem dT_copy_52 : decode mT_copy.2.1 52 = .ok (.invokevirtual 61, 3) := by decide +kernel
theorem dT_copy_55 : decode mT_copy.2.1 55 = .ok (.aload_n 0, 1) := by decide +kernel
theorem dT_copy_56 : decode mT_copy.2.1 56 = .ok (.aload_n 1, 1) := by decide +kernel
theorem dT_copy_57 : decode mT_copy.2.1 57 = .ok (.getfield 44, 3) := by decide +kernel
theorem dT_copy_60 : decode mT_copy.2.1 60 = .ok (.putfield 44, 3) := by decide +kernel
theorem dT_copy_63 : decode mT_copy.2.1 63 = .ok (.return_, 1) := by decide +kernel
theorem dV_init_0 : decode mV_init.2.1 0 = .ok (.aload_n 0, 1) := by decide +kernel
theorem dV_init_1 : decode mV_init.2.1 1 = .ok (.invokespecial 3, 3) := by decide +kernel
theorem dV_init_4 : decode mV_init.2.1 4 = .ok (.aload_n 0, 1) := by decide +kernel
theorem dV_init_5 : decode mV_init.2.1 5 = .ok (.bipush 40, 2) := by decide +kernel
theorem dV_init_7 : decode mV_init.2.1 7 = .ok (.newarray .int, 2) := by decide +kernel
theorem dV_init_9 : decode mV_init.2.1 9 = .ok (.putfield 9, 3) := by decide +kernel
theorem dV_init_12 : decode mV_init.2.1 12 = .ok (.aload_n 0, 1) := by decide +kernel
theorem dV_init_13 : decode mV_init.2.1 13 = .ok (.iconst 0, 1) := by decide +kernel
theorem dV_init_14 : decode mV_init.2.1 14 = .ok (.putfield 15, 3) := by decide +kernel
theorem dV_init_17 : decode mV_init.2.1 17 = .ok (.aload_n 0, 1) := by decide +kernel
theorem dV_init_18 : decode mV_init.2.1 18 = .ok (.iconst 0, 1) := by decide +kernel
theorem dV_init_19 : decode mV_init.2.1 19 = .ok (.putfield 19, 3) := by decide +kernel
theorem dV_init_22 : decode mV_init.2.1 22 = .ok (.aload_n 0, 1) := by decide +kernel
theorem dV_init_23 : decode mV_init.2.1 23 = .ok (.iconst 0, 1) := by decide +kernel
theorem dV_init_24 : decode mV_init.2.1 24 = .ok (.putfield 22, 3) := by decide +kernel
theorem dV_init_27 : decode mV_init.2.1 27 = .ok (.aload_n 0, 1) := by decide +kernel
theorem dV_init_28 : decode mV_init.2.1 28 = .ok (.iconst 0, 1) := by decide +kernel
theorem dV_init_29 : decode mV_init.2.1 29 = .ok (.putfield 25, 3) := by decide +kernel
theorem dV_init_32 : decode mV_init.2.1 32 = .ok (.return_, 1) := by decide +kernel
theorem dV_begin_0 : decode mV_begin.2.1 0 = .ok (.aload_n 0, 1) := by decide +kernel
theorem dV_begin_1 : decode mV_begin.2.1 1 = .ok (.iconst 0, 1) := by decide +kernel
theorem dV_begin_2 : decode mV_begin.2.1 2 = .ok (.putfield 15, 3) := by decide +kernel
theorem dV_begin_5 : decode mV_begin.2.1 5 = .ok (.aload_n 0, 1) := by decide +kernel
theorem dV_begin_6 : decode mV_begin.2.1 6 = .ok (.iload_n 1, 1) := by decide +kernel
theorem dV_begin_7 : decode mV_begin.2.1 7 = .ok (.putfield 19, 3) := by decide +kernel
theorem dV_begin_10 : decode mV_begin.2.1 10 = .ok (.aload_n 0, 1) := by decide +kernel
theorem dV_begin_11 : decode mV_begin.2.1 11 = .ok (.iload_n 2, 1) := by decide +kernel
theorem dV_begin_12 : decode mV_begin.2.1 12 = .ok (.putfield 22, 3) := by decide +kernel
theorem dV_begin_15 : decode mV_begin.2.1 15 = .ok (.aload_n 0, 1) := by decide +kernel
theorem dV_begin_16 : decode mV_begin.2.1 16 = .ok (.iload_n 3, 1) := by decide +kernel
theorem dV_begin_17 : decode mV_begin.2.1 17 = .ok (.putfield 25, 3) := by decide +kernel
theorem dV_begin_20 : decode mV_begin.2.1 20 = .ok (.aload_n 0, 1) := by decide +kernel
theorem dV_begin_21 : decode mV_begin.2.1 21 = .ok (.aload_n 0, 1) := by decide +kernel
theorem dV_begin_22 : decode mV_begin.2.1 22 = .ok (.getfield 19, 3) := by decide +kernel
theorem dV_begin_25 : decode mV_begin.2.1 25 = .ok (.iload 4, 2) := by decide +kernel
theorem dV_begin_27 : decode mV_begin.2.1 27 = .ok (.iload 5, 2) := by decide +kernel
theorem dV_begin_29 : decode mV_begin.2.1 29 = .ok (.iconst 0, 1) := by decide +kernel
theorem dV_begin_30 : decode mV_begin.2.1 30 = .ok (.invokevirtual 28, 3) := by decide +kernel
theorem dV_begin_33 : decode mV_begin.2.1 33 = .ok (.ireturn, 1) := by decide +kernel
theorem dV_call_0 : decode mV_call.2.1 0 = .ok (.iload_n 1, 1) := by decide +kernel
theorem dV_call_1 : decode mV_call.2.1 1 = .ok (.istore 5, 2) := by decide +kernel
theorem dV_call_3 : decode mV_call.2.1 3 = .ok (.iconst 0, 1) := by decide +kernel
theorem dV_call_4 : decode mV_call.2.1 4 = .ok (.istore 6, 2) := by decide +kernel
theorem dV_call_6 : decode mV_call.2.1 6 = .ok (.iload 6, 2) := by decide +kernel
theorem dV_call_8 : decode mV_call.2.1 8 = .ok (.bipush 6, 2) := by decide +kernel
theorem dV_call_10 : decode mV_call.2.1 10 = .ok (.if_icmp .ge 52, 3) := by decide +kernel
theorem dV_call_13 : decode mV_call.2.1 13 = .ok (.iload 5, 2) := by decide +kernel
theorem dV_call_15 : decode mV_call.2.1 15 = .ok (.invokestatic 32, 3) := by decide +kernel
theorem dV_call_18 : decode mV_call.2.1 18 = .ok (.ifCond .eq 44, 3) := by decide +kernel
theorem dV_call_21 : decode mV_call.2.1 21 = .ok (.getstatic 36, 3) := by decide +kernel
theorem dV_call_24 : decode mV_call.2.1 24 = .ok (.iload 5, 2) := by decide +kernel
theorem dV_call_26 : decode mV_call.2.1 26 = .ok (.iconst 4, 1) := by decide +kernel
theorem dV_call_27 : decode mV_call.2.1 27 = .ok (.imul, 1) := by decide +kernel
theorem dV_call_28 : decode mV_call.2.1 28 = .ok (.iload_n 2, 1) := by decide +kernel
theorem dV_call_29 : decode mV_call.2.1 29 = .ok (.iadd, 1) := by decide +kernel
theorem dV_call_30 : decode mV_call.2.1 30 = .ok (.iaload, 1) := by decide +kernel
theorem dV_call_31 : decode mV_call.2.1 31 = .ok (.istore 7, 2) := by decide +kernel
theorem dV_call_33 : decode mV_call.2.1 33 = .ok (.iload 7, 2) := by decide +kernel
theorem dV_call_35 : decode mV_call.2.1 35 = .ok (.ifCond .eq 13, 3) := by decide +kernel
theorem dV_call_38 : decode mV_call.2.1 38 = .ok (.aload_n 0, 1) := by decide +kernel
theorem dV_call_39 : decode mV_call.2.1 39 = .ok (.iload 7, 2) := by decide +kernel
theorem dV_call_41 : decode mV_call.2.1 41 = .ok (.iload_n 3, 1) := by decide +kernel
theorem dV_call_42 : decode mV_call.2.1 42 = .ok (.iload 4, 2) := by decide +kernel
theorem dV_call_44 : decode mV_call.2.1 44 = .ok (.invokevirtual 39, 3) := by decide +kernel
theorem dV_call_47 : decode mV_call.2.1 47 = .ok (.ireturn, 1) := by decide +kernel
theorem dV_call_48 : decode mV_call.2.1 48 = .ok (.getstatic 43, 3) := by decide +kernel
theorem dV_call_51 : decode mV_call.2.1 51 = .ok (.iload 5, 2) := by decide +kernel
theorem dV_call_53 : decode mV_call.2.1 53 = .ok (.iaload, 1) := by decide +kernel
theorem dV_call_54 : decode mV_call.2.1 54 = .ok (.istore 5, 2) := by decide +kernel
theorem dV_call_56 : decode mV_call.2.1 56 = .ok (.iinc 6 1, 3) := by decide +kernel
theorem dV_call_59 : decode mV_call.2.1 59 = .ok (.goto (-53), 3) := by decide +kernel
theorem dV_call_62 : decode mV_call.2.1 62 = .ok (.iconst 0, 1) := by decide +kernel
theorem dV_call_63 : decode mV_call.2.1 63 = .ok (.ireturn, 1) := by decide +kernel
theorem dV_speak_0 : decode mV_speak.2.1 0 = .ok (.iload_n 3, 1) := by decide +kernel
theorem dV_speak_1 : decode mV_speak.2.1 1 = .ok (.bipush 40, 2) := by decide +kernel
theorem dV_speak_3 : decode mV_speak.2.1 3 = .ok (.if_icmp .lt 5, 3) := by decide +kernel
theorem dV_speak_6 : decode mV_speak.2.1 6 = .ok (.iconst 0, 1) := by decide +kernel
theorem dV_speak_7 : decode mV_speak.2.1 7 = .ok (.ireturn, 1) := by decide +kernel
theorem dV_speak_8 : decode mV_speak.2.1 8 = .ok (.aload_n 0, 1) := by decide +kernel
theorem dV_speak_9 : decode mV_speak.2.1 9 = .ok (.getfield 15, 3) := by decide +kernel
theorem dV_speak_12 : decode mV_speak.2.1 12 = .ok (.bipush 40, 2) := by decide +kernel
theorem dV_speak_14 : decode mV_speak.2.1 14 = .ok (.if_icmp .ge 23, 3) := by decide +kernel
theorem dV_speak_17 : decode mV_speak.2.1 17 = .ok (.aload_n 0, 1) := by decide +kernel
theorem dV_speak_18 : decode mV_speak.2.1 18 = .ok (.getfield 9, 3) := by decide +kernel
theorem dV_speak_21 : decode mV_speak.2.1 21 = .ok (.aload_n 0, 1) := by decide +kernel
theorem dV_speak_22 : decode mV_speak.2.1 22 = .ok (.getfield 15, 3) := by decide +kernel
theorem dV_speak_25 : decode mV_speak.2.1 25 = .ok (.iload_n 1, 1) := by decide +kernel
theorem dV_speak_26 : decode mV_speak.2.1 26 = .ok (.iastore, 1) := by decide +kernel
theorem dV_speak_27 : decode mV_speak.2.1 27 = .ok (.aload_n 0, 1) := by decide +kernel
theorem dV_speak_28 : decode mV_speak.2.1 28 = .ok (.dup, 1) := by decide +kernel
theorem dV_speak_29 : decode mV_speak.2.1 29 = .ok (.getfield 15, 3) := by decide +kernel
theorem dV_speak_32 : decode mV_speak.2.1 32 = .ok (.iconst 1, 1) := by decide +kernel
theorem dV_speak_33 : decode mV_speak.2.1 33 = .ok (.iadd, 1) := by decide +kernel
theorem dV_speak_34 : decode mV_speak.2.1 34 = .ok (.putfield 15, 3) := by decide +kernel
theorem dV_speak_37 : decode mV_speak.2.1 37 = .ok (.iload_n 3, 1) := by decide +kernel
theorem dV_speak_38 : decode mV_speak.2.1 38 = .ok (.iconst 1, 1) := by decide +kernel
theorem dV_speak_39 : decode mV_speak.2.1 39 = .ok (.iadd, 1) := by decide +kernel
theorem dV_speak_40 : decode mV_speak.2.1 40 = .ok (.istore 4, 2) := by decide +kernel
theorem dV_speak_42 : decode mV_speak.2.1 42 = .ok (.iload_n 1, 1) := by decide +kernel
theorem dV_speak_43 : decode mV_speak.2.1 43 = .ok (.lookupswitch 298 #[(10, 105), (11, 112), (12, 127), (13, 134), (20, 160), (30, 183), (31, 198), (40, 210), (41, 222), (50, 237), (60, 260), (61, 275)], 105) := by decide +kernel
theorem dV_speak_148 : decode mV_speak.2.1 148 = .ok (.iload_n 2, 1) := by decide +kernel
theorem dV_speak_149 : decode mV_speak.2.1 149 = .ok (.aload_n 0, 1) := by decide +kernel
theorem dV_speak_150 : decode mV_speak.2.1 150 = .ok (.getfield 25, 3) := by decide +kernel
theorem dV_speak_153 : decode mV_speak.2.1 153 = .ok (.iadd, 1) := by decide +kernel
theorem dV_speak_154 : decode mV_speak.2.1 154 = .ok (.ireturn, 1) := by decide +kernel
theorem dV_speak_155 : decode mV_speak.2.1 155 = .ok (.aload_n 0, 1) := by decide +kernel
theorem dV_speak_156 : decode mV_speak.2.1 156 = .ok (.aload_n 0, 1) := by decide +kernel
theorem dV_speak_157 : decode mV_speak.2.1 157 = .ok (.getfield 19, 3) := by decide +kernel
theorem dV_speak_160 : decode mV_speak.2.1 160 = .ok (.iconst 0, 1) := by decide +kernel
theorem dV_speak_161 : decode mV_speak.2.1 161 = .ok (.iload_n 2, 1) := by decide +kernel
theorem dV_speak_162 : decode mV_speak.2.1 162 = .ok (.iload 4, 2) := by decide +kernel
theorem dV_speak_164 : decode mV_speak.2.1 164 = .ok (.invokevirtual 28, 3) := by decide +kernel
theorem dV_speak_167 : decode mV_speak.2.1 167 = .ok (.iconst 2, 1) := by decide +kernel
theorem dV_speak_168 : decode mV_speak.2.1 168 = .ok (.imul, 1) := by decide +kernel
theorem dV_speak_169 : decode mV_speak.2.1 169 = .ok (.ireturn, 1) := by decide +kernel
theorem dV_speak_170 : decode mV_speak.2.1 170 = .ok (.iload_n 2, 1) := by decide +kernel
theorem dV_speak_171 : decode mV_speak.2.1 171 = .ok (.aload_n 0, 1) := by decide +kernel
theorem dV_speak_172 : decode mV_speak.2.1 172 = .ok (.getfield 22, 3) := by decide +kernel
theorem dV_speak_175 : decode mV_speak.2.1 175 = .ok (.isub, 1) := by decide +kernel
theorem dV_speak_176 : decode mV_speak.2.1 176 = .ok (.ireturn, 1) := by decide +kernel
theorem dV_speak_177 : decode mV_speak.2.1 177 = .ok (.aload_n 0, 1) := by decide +kernel
theorem dV_speak_178 : decode mV_speak.2.1 178 = .ok (.aload_n 0, 1) := by decide +kernel
theorem dV_speak_179 : decode mV_speak.2.1 179 = .ok (.getfield 19, 3) := by decide +kernel
theorem dV_speak_182 : decode mV_speak.2.1 182 = .ok (.iconst 1, 1) := by decide +kernel
theorem dV_speak_183 : decode mV_speak.2.1 183 = .ok (.iload_n 2, 1) := by decide +kernel
theorem dV_speak_184 : decode mV_speak.2.1 184 = .ok (.iload 4, 2) := by decide +kernel
theorem dV_speak_186 : decode mV_speak.2.1 186 = .ok (.invokevirtual 28, 3) := by decide +kernel
theorem dV_speak_189 : decode mV_speak.2.1 189 = .ok (.aload_n 0, 1) := by decide +kernel
theorem dV_speak_190 : decode mV_speak.2.1 190 = .ok (.aload_n 0, 1) := by decide +kernel
theorem dV_speak_191 : decode mV_speak.2.1 191 = .ok (.getfield 19, 3) := by decide +kernel
theorem dV_speak_194 : decode mV_speak.2.1 194 = .ok (.iconst 2, 1) := by decide +kernel
theorem dV_speak_195 : decode mV_speak.2.1 195 = .ok (.iload_n 2, 1) := by decide +kernel
theorem dV_speak_196 : decode mV_speak.2.1 196 = .ok (.iload 4, 2) := by decide +kernel
theorem dV_speak_198 : decode mV_speak.2.1 198 = .ok (.invokevirtual 28, 3) := by decide +kernel
theorem dV_speak_201 : decode mV_speak.2.1 201 = .ok (.ixor, 1) := by decide +kernel
theorem dV_speak_202 : decode mV_speak.2.1 202 = .ok (.ireturn, 1) := by decide +kernel
theorem dV_speak_203 : decode mV_speak.2.1 203 = .ok (.aload_n 0, 1) := by decide +kernel
theorem dV_speak_204 : decode mV_speak.2.1 204 = .ok (.iconst 0, 1) := by decide +kernel
theorem dV_speak_205 : decode mV_speak.2.1 205 = .ok (.iconst 1, 1) := by decide +kernel
theorem dV_speak_206 : decode mV_speak.2.1 206 = .ok (.iload_n 2, 1) := by decide +kernel
theorem dV_speak_207 : decode mV_speak.2.1 207 = .ok (.iload 4, 2) := by decide +kernel
theorem dV_speak_209 : decode mV_speak.2.1 209 = .ok (.invokevirtual 28, 3) := by decide +kernel
theorem dV_speak_212 : decode mV_speak.2.1 212 = .ok (.aload_n 0, 1) := by decide +kernel
theorem dV_speak_213 : decode mV_speak.2.1 213 = .ok (.aload_n 0, 1) := by decide +kernel
theorem dV_speak_214 : decode mV_speak.2.1 214 = .ok (.getfield 19, 3) := by decide +kernel
theorem dV_speak_217 : decode mV_speak.2.1 217 = .ok (.iconst 2, 1) := by decide +kernel
theorem dV_speak_218 : decode mV_speak.2.1 218 = .ok (.iload_n 2, 1) := by decide +kernel
theorem dV_speak_219 : decode mV_speak.2.1 219 = .ok (.iload 4, 2) := by decide +kernel
theorem dV_speak_221 : decode mV_speak.2.1 221 = .ok (.invokevirtual 28, 3) := by decide +kernel
theorem dV_speak_224 : decode mV_speak.2.1 224 = .ok (.isub, 1) := by decide +kernel
theorem dV_speak_225 : decode mV_speak.2.1 225 = .ok (.ireturn, 1) := by decide +kernel
theorem dV_speak_226 : decode mV_speak.2.1 226 = .ok (.aload_n 0, 1) := by decide +kernel
theorem dV_speak_227 : decode mV_speak.2.1 227 = .ok (.iconst 0, 1) := by decide +kernel
theorem dV_speak_228 : decode mV_speak.2.1 228 = .ok (.iconst 0, 1) := by decide +kernel
theorem dV_speak_229 : decode mV_speak.2.1 229 = .ok (.iload_n 2, 1) := by decide +kernel
theorem dV_speak_230 : decode mV_speak.2.1 230 = .ok (.iload 4, 2) := by decide +kernel
theorem dV_speak_232 : decode mV_speak.2.1 232 = .ok (.invokevirtual 28, 3) := by decide +kernel
theorem dV_speak_235 : decode mV_speak.2.1 235 = .ok (.aload_n 0, 1) := by decide +kernel
theorem dV_speak_236 : decode mV_speak.2.1 236 = .ok (.getfield 22, 3) := by decide +kernel
theorem dV_speak_239 : decode mV_speak.2.1 239 = .ok (.iadd, 1) := by decide +kernel
theorem dV_speak_240 : decode mV_speak.2.1 240 = .ok (.ireturn, 1) := by decide +kernel
theorem dV_speak_241 : decode mV_speak.2.1 241 = .ok (.aload_n 0, 1) := by decide +kernel
theorem dV_speak_242 : decode mV_speak.2.1 242 = .ok (.iconst 0, 1) := by decide +kernel
theorem dV_speak_243 : decode mV_speak.2.1 243 = .ok (.iconst 3, 1) := by decide +kernel
theorem dV_speak_244 : decode mV_speak.2.1 244 = .ok (.iload_n 2, 1) := by decide +kernel
theorem dV_speak_245 : decode mV_speak.2.1 245 = .ok (.iconst 1, 1) := by decide +kernel
theorem dV_speak_246 : decode mV_speak.2.1 246 = .ok (.iadd, 1) := by decide +kernel
theorem dV_speak_247 : decode mV_speak.2.1 247 = .ok (.iload 4, 2) := by decide +kernel
theorem dV_speak_249 : decode mV_speak.2.1 249 = .ok (.invokevirtual 28, 3) := by decide +kernel
theorem dV_speak_252 : decode mV_speak.2.1 252 = .ok (.ireturn, 1) := by decide +kernel
theorem dV_speak_253 : decode mV_speak.2.1 253 = .ok (.aload_n 0, 1) := by decide +kernel
theorem dV_speak_254 : decode mV_speak.2.1 254 = .ok (.iconst 2, 1) := by decide +kernel
theorem dV_speak_255 : decode mV_speak.2.1 255 = .ok (.iconst 2, 1) := by decide +kernel
theorem dV_speak_256 : decode mV_speak.2.1 256 = .ok (.iload_n 2, 1) := by decide +kernel
theorem dV_speak_257 : decode mV_speak.2.1 257 = .ok (.iload 4, 2) := by decide +kernel
theorem dV_speak_259 : decode mV_speak.2.1 259 = .ok (.invokevirtual 28, 3) := by decide +kernel
theorem dV_speak_262 : decode mV_speak.2.1 262 = .ok (.iconst 3, 1) := by decide +kernel
theorem dV_speak_263 : decode mV_speak.2.1 263 = .ok (.imul, 1) := by decide +kernel
theorem dV_speak_264 : decode mV_speak.2.1 264 = .ok (.ireturn, 1) := by decide +kernel
theorem dV_speak_265 : decode mV_speak.2.1 265 = .ok (.aload_n 0, 1) := by decide +kernel
theorem dV_speak_266 : decode mV_speak.2.1 266 = .ok (.iconst 2, 1) := by decide +kernel
theorem dV_speak_267 : decode mV_speak.2.1 267 = .ok (.iconst 0, 1) := by decide +kernel
theorem dV_speak_268 : decode mV_speak.2.1 268 = .ok (.iload_n 2, 1) := by decide +kernel
theorem dV_speak_269 : decode mV_speak.2.1 269 = .ok (.aload_n 0, 1) := by decide +kernel
theorem dV_speak_270 : decode mV_speak.2.1 270 = .ok (.getfield 25, 3) := by decide +kernel
theorem dV_speak_273 : decode mV_speak.2.1 273 = .ok (.isub, 1) := by decide +kernel
theorem dV_speak_274 : decode mV_speak.2.1 274 = .ok (.iload 4, 2) := by decide +kernel
theorem dV_speak_276 : decode mV_speak.2.1 276 = .ok (.invokevirtual 28, 3) := by decide +kernel
theorem dV_speak_279 : decode mV_speak.2.1 279 = .ok (.ireturn, 1) := by decide +kernel
theorem dV_speak_280 : decode mV_speak.2.1 280 = .ok (.aload_n 0, 1) := by decide +kernel
theorem dV_speak_281 : decode mV_speak.2.1 281 = .ok (.aload_n 0, 1) := by decide +kernel
theorem dV_speak_282 : decode mV_speak.2.1 282 = .ok (.getfield 19, 3) := by decide +kernel
theorem dV_speak_285 : decode mV_speak.2.1 285 = .ok (.iconst 2, 1) := by decide +kernel
theorem dV_speak_286 : decode mV_speak.2.1 286 = .ok (.iload_n 2, 1) := by decide +kernel
theorem dV_speak_287 : decode mV_speak.2.1 287 = .ok (.iload 4, 2) := by decide +kernel
theorem dV_speak_289 : decode mV_speak.2.1 289 = .ok (.invokevirtual 28, 3) := by decide +kernel
theorem dV_speak_292 : decode mV_speak.2.1 292 = .ok (.aload_n 0, 1) := by decide +kernel
theorem dV_speak_293 : decode mV_speak.2.1 293 = .ok (.iconst 0, 1) := by decide +kernel
theorem dV_speak_294 : decode mV_speak.2.1 294 = .ok (.iconst 3, 1) := by decide +kernel
theorem dV_speak_295 : decode mV_speak.2.1 295 = .ok (.iload_n 2, 1) := by decide +kernel
theorem dV_speak_296 : decode mV_speak.2.1 296 = .ok (.iload 4, 2) := by decide +kernel
theorem dV_speak_298 : decode mV_speak.2.1 298 = .ok (.invokevirtual 28, 3) := by decide +kernel
theorem dV_speak_301 : decode mV_speak.2.1 301 = .ok (.isub, 1) := by decide +kernel
theorem dV_speak_302 : decode mV_speak.2.1 302 = .ok (.ireturn, 1) := by decide +kernel
theorem dV_speak_303 : decode mV_speak.2.1 303 = .ok (.aload_n 0, 1) := by decide +kernel
theorem dV_speak_304 : decode mV_speak.2.1 304 = .ok (.iconst 2, 1) := by decide +kernel
theorem dV_speak_305 : decode mV_speak.2.1 305 = .ok (.iconst 2, 1) := by decide +kernel
theorem dV_speak_306 : decode mV_speak.2.1 306 = .ok (.iload_n 2, 1) := by decide +kernel
theorem dV_speak_307 : decode mV_speak.2.1 307 = .ok (.aload_n 0, 1) := by decide +kernel
theorem dV_speak_308 : decode mV_speak.2.1 308 = .ok (.getfield 22, 3) := by decide +kernel
theorem dV_speak_311 : decode mV_speak.2.1 311 = .ok (.iadd, 1) := by decide +kernel
theorem dV_speak_312 : decode mV_speak.2.1 312 = .ok (.iload 4, 2) := by decide +kernel
theorem dV_speak_314 : decode mV_speak.2.1 314 = .ok (.invokevirtual 28, 3) := by decide +kernel
theorem dV_speak_317 : decode mV_speak.2.1 317 = .ok (.ireturn, 1) := by decide +kernel
theorem dV_speak_318 : decode mV_speak.2.1 318 = .ok (.aload_n 0, 1) := by decide +kernel
theorem dV_speak_319 : decode mV_speak.2.1 319 = .ok (.iconst 2, 1) := by decide +kernel
theorem dV_speak_320 : decode mV_speak.2.1 320 = .ok (.iconst 1, 1) := by decide +kernel
theorem dV_speak_321 : decode mV_speak.2.1 321 = .ok (.iload_n 2, 1) := by decide +kernel
theorem dV_speak_322 : decode mV_speak.2.1 322 = .ok (.iload 4, 2) := by decide +kernel
theorem dV_speak_324 : decode mV_speak.2.1 324 = .ok (.invokevirtual 28, 3) := by decide +kernel
theorem dV_speak_327 : decode mV_speak.2.1 327 = .ok (.aload_n 0, 1) := by decide +kernel
theorem dV_speak_328 : decode mV_speak.2.1 328 = .ok (.aload_n 0, 1) := by decide +kernel
theorem dV_speak_329 : decode mV_speak.2.1 329 = .ok (.getfield 19, 3) := by decide +kernel
theorem dV_speak_332 : decode mV_speak.2.1 332 = .ok (.iconst 0, 1) := by decide +kernel
theorem dV_speak_333 : decode mV_speak.2.1 333 = .ok (.iload_n 2, 1) := by decide +kernel
theorem dV_speak_334 : decode mV_speak.2.1 334 = .ok (.iload 4, 2) := by decide +kernel
theorem dV_speak_336 : decode mV_speak.2.1 336 = .ok (.invokevirtual 28, 3) := by decide +kernel
theorem dV_speak_339 : decode mV_speak.2.1 339 = .ok (.ixor, 1) := by decide +kernel
theorem dV_speak_340 : decode mV_speak.2.1 340 = .ok (.ireturn, 1) := by decide +kernel
theorem dV_speak_341 : decode mV_speak.2.1 341 = .ok (.iconst 0, 1) := by decide +kernel
theorem dV_speak_342 : decode mV_speak.2.1 342 = .ok (.ireturn, 1) := by decide +kernel
theorem dW_init_0 : decode mW_init.2.1 0 = .ok (.aload_n 0, 1) := by decide +kernel
theorem dW_init_1 : decode mW_init.2.1 1 = .ok (.invokespecial 3, 3) := by decide +kernel
theorem dW_init_4 : decode mW_init.2.1 4 = .ok (.aload_n 0, 1) := by decide +kernel
theorem dW_init_5 : decode mW_init.2.1 5 = .ok (.bipush 16, 2) := by decide +kernel
theorem dW_init_7 : decode mW_init.2.1 7 = .ok (.newarray .int, 2) := by decide +kernel
theorem dW_init_9 : decode mW_init.2.1 9 = .ok (.putfield 9, 3) := by decide +kernel
theorem dW_init_12 : decode mW_init.2.1 12 = .ok (.aload_n 0, 1) := by decide +kernel
theorem dW_init_13 : decode mW_init.2.1 13 = .ok (.bipush 16, 2) := by decide +kernel
theorem dW_init_15 : decode mW_init.2.1 15 = .ok (.newarray .int, 2) := by decide +kernel
theorem dW_init_17 : decode mW_init.2.1 17 = .ok (.putfield 15, 3) := by decide +kernel
theorem dW_init_20 : decode mW_init.2.1 20 = .ok (.aload_n 0, 1) := by decide +kernel
theorem dW_init_21 : decode mW_init.2.1 21 = .ok (.bipush 16, 2) := by decide +kernel
theorem dW_init_23 : decode mW_init.2.1 23 = .ok (.newarray .int, 2) := by decide +kernel
theorem dW_init_25 : decode mW_init.2.1 25 = .ok (.putfield 18, 3) := by decide +kernel
theorem dW_init_28 : decode mW_init.2.1 28 = .ok (.aload_n 0, 1) := by decide +kernel
theorem dW_init_29 : decode mW_init.2.1 29 = .ok (.bipush 16, 2) := by decide +kernel
theorem dW_init_31 : decode mW_init.2.1 31 = .ok (.newarray .int, 2) := by decide +kernel
theorem dW_init_33 : decode mW_init.2.1 33 = .ok (.putfield 21, 3) := by decide +kernel
theorem dW_init_36 : decode mW_init.2.1 36 = .ok (.aload_n 0, 1) := by decide +kernel
theorem dW_init_37 : decode mW_init.2.1 37 = .ok (.sipush 256, 3) := by decide +kernel
theorem dW_init_40 : decode mW_init.2.1 40 = .ok (.newarray .int, 2) := by decide +kernel
theorem dW_init_42 : decode mW_init.2.1 42 = .ok (.putfield 24, 3) := by decide +kernel
theorem dW_init_45 : decode mW_init.2.1 45 = .ok (.aload_n 0, 1) := by decide +kernel
theorem dW_init_46 : decode mW_init.2.1 46 = .ok (.bipush 16, 2) := by decide +kernel
theorem dW_init_48 : decode mW_init.2.1 48 = .ok (.newarray .int, 2) := by decide +kernel
theorem dW_init_50 : decode mW_init.2.1 50 = .ok (.putfield 27, 3) := by decide +kernel
theorem dW_init_53 : decode mW_init.2.1 53 = .ok (.aload_n 0, 1) := by decide +kernel
theorem dW_init_54 : decode mW_init.2.1 54 = .ok (.iconst 0, 1) := by decide +kernel
theorem dW_init_55 : decode mW_init.2.1 55 = .ok (.putfield 30, 3) := by decide +kernel
theorem dW_init_58 : decode mW_init.2.1 58 = .ok (.aload_n 0, 1) := by decide +kernel
theorem dW_init_59 : decode mW_init.2.1 59 = .ok (.iconst 0, 1) := by decide +kernel
theorem dW_init_60 : decode mW_init.2.1 60 = .ok (.putfield 34, 3) := by decide +kernel
theorem dW_init_63 : decode mW_init.2.1 63 = .ok (.return_, 1) := by decide +kernel
theorem dW_add_0 : decode mW_add.2.1 0 = .ok (.aload_n 0, 1) := by decide +kernel
theorem dW_add_1 : decode mW_add.2.1 1 = .ok (.getfield 9, 3) := by decide +kernel
theorem dW_add_4 : decode mW_add.2.1 4 = .ok (.aload_n 0, 1) := by decide +kernel
theorem dW_add_5 : decode mW_add.2.1 5 = .ok (.getfield 30, 3) := by decide +kernel
theorem dW_add_8 : decode mW_add.2.1 8 = .ok (.iload_n 1, 1) := by decide +kernel
theorem dW_add_9 : decode mW_add.2.1 9 = .ok (.iastore, 1) := by decide +kernel
theorem dW_add_10 : decode mW_add.2.1 10 = .ok (.aload_n 0, 1) := by decide +kernel
theorem dW_add_11 : decode mW_add.2.1 11 = .ok (.getfield 15, 3) := by decide +kernel
theorem dW_add_14 : decode mW_add.2.1 14 = .ok (.aload_n 0, 1) := by decide +kernel
theorem dW_add_15 : decode mW_add.2.1 15 = .ok (.getfield 30, 3) := by decide +kernel
theorem dW_add_18 : decode mW_add.2.1 18 = .ok (.iload_n 2, 1) := by decide +kernel
theorem dW_add_19 : decode mW_add.2.1 19 = .ok (.iastore, 1) := by decide +kernel
theorem dW_add_20 : decode mW_add.2.1 20 = .ok (.aload_n 0, 1) := by decide +kernel
theorem dW_add_21 : decode mW_add.2.1 21 = .ok (.getfield 18, 3) := by decide +kernel
theorem dW_add_24 : decode mW_add.2.1 24 = .ok (.aload_n 0, 1) := by decide +kernel
theorem dW_add_25 : decode mW_add.2.1 25 = .ok (.getfield 30, 3) := by decide +kernel
theorem dW_add_28 : decode mW_add.2.1 28 = .ok (.iload_n 2, 1) := by decide +kernel
theorem dW_add_29 : decode mW_add.2.1 29 = .ok (.iastore, 1) := by decide +kernel
theorem dW_add_30 : decode mW_add.2.1 30 = .ok (.aload_n 0, 1) := by decide +kernel
theorem dW_add_31 : decode mW_add.2.1 31 = .ok (.getfield 21, 3) := by decide +kernel
theorem dW_add_34 : decode mW_add.2.1 34 = .ok (.aload_n 0, 1) := by decide +kernel
theorem dW_add_35 : decode mW_add.2.1 35 = .ok (.getfield 30, 3) := by decide +kernel
theorem dW_add_38 : decode mW_add.2.1 38 = .ok (.iconst 0, 1) := by decide +kernel
theorem dW_add_39 : decode mW_add.2.1 39 = .ok (.iastore, 1) := by decide +kernel
theorem dW_add_40 : decode mW_add.2.1 40 = .ok (.aload_n 0, 1) := by decide +kernel
theorem dW_add_41 : decode mW_add.2.1 41 = .ok (.getfield 27, 3) := by decide +kernel
theorem dW_add_44 : decode mW_add.2.1 44 = .ok (.aload_n 0, 1) := by decide +kernel
theorem dW_add_45 : decode mW_add.2.1 45 = .ok (.getfield 30, 3) := by decide +kernel
theorem dW_add_48 : decode mW_add.2.1 48 = .ok (.aload_n 0, 1) := by decide +kernel
theorem dW_add_49 : decode mW_add.2.1 49 = .ok (.getfield 30, 3) := by decide +kernel
theorem dW_add_52 : decode mW_add.2.1 52 = .ok (.iastore, 1) := by decide +kernel
theorem dW_add_53 : decode mW_add.2.1 53 = .ok (.aload_n 0, 1) := by decide +kernel
theorem dW_add_54 : decode mW_add.2.1 54 = .ok (.dup, 1) := by decide +kernel
theorem dW_add_55 : decode mW_add.2.1 55 = .ok (.getfield 30, 3) := by decide +kernel
theorem dW_add_58 : decode mW_add.2.1 58 = .ok (.iconst 1, 1) := by decide +kernel
theorem dW_add_59 : decode mW_add.2.1 59 = .ok (.iadd, 1) := by decide +kernel
theorem dW_add_60 : decode mW_add.2.1 60 = .ok (.putfield 30, 3) := by decide +kernel
theorem dW_add_63 : decode mW_add.2.1 63 = .ok (.aload_n 0, 1) := by decide +kernel
theorem dW_add_64 : decode mW_add.2.1 64 = .ok (.getfield 30, 3) := by decide +kernel
theorem dW_add_67 : decode mW_add.2.1 67 = .ok (.iconst 1, 1) := by decide +kernel
theorem dW_add_68 : decode mW_add.2.1 68 = .ok (.isub, 1) := by decide +kernel
theorem dW_add_69 : decode mW_add.2.1 69 = .ok (.ireturn, 1) := by decide +kernel
theorem dW_has_0 : decode mW_has.2.1 0 = .ok (.iload_n 1, 1) := by decide +kernel
theorem dW_has_1 : decode mW_has.2.1 1 = .ok (.ifCond .lt 15, 3) := by decide +kernel
theorem dW_has_4 : decode mW_has.2.1 4 = .ok (.iload_n 1, 1) := by decide +kernel
theorem dW_has_5 : decode mW_has.2.1 5 = .ok (.aload_n 0, 1) := by decide +kernel
theorem dW_has_6 : decode mW_has.2.1 6 = .ok (.getfield 30, 3) := by decide +kernel
theorem dW_has_9 : decode mW_has.2.1 9 = .ok (.if_icmp .ge 7, 3) := by decide +kernel
theorem dW_has_12 : decode mW_has.2.1 12 = .ok (.iconst 1, 1) := by decide +kernel
theorem dW_has_13 : decode mW_has.2.1 13 = .ok (.goto 4, 3) := by decide +kernel
theorem dW_has_16 : decode mW_has.2.1 16 = .ok (.iconst 0, 1) := by decide +kernel
theorem dW_has_17 : decode mW_has.2.1 17 = .ok (.ireturn, 1) := by decide +kernel
theorem dW_linked_0 : decode mW_linked.2.1 0 = .ok (.aload_n 0, 1) := by decide +kernel
theorem dW_linked_1 : decode mW_linked.2.1 1 = .ok (.getfield 21, 3) := by decide +kernel
theorem dW_linked_4 : decode mW_linked.2.1 4 = .ok (.iload_n 2, 1) := by decide +kernel
theorem dW_linked_5 : decode mW_linked.2.1 5 = .ok (.iaload, 1) := by decide +kernel
theorem dW_linked_6 : decode mW_linked.2.1 6 = .ok (.iload_n 1, 1) := by decide +kernel
theorem dW_linked_7 : decode mW_linked.2.1 7 = .ok (.invokestatic 43, 3) := by decide +kernel
theorem dW_linked_10 : decode mW_linked.2.1 10 = .ok (.ireturn, 1) := by decide +kernel
theorem dW_leadsTo_0 : decode mW_leadsTo.2.1 0 = .ok (.iconst 1, 1) := by decide +kernel
theorem dW_leadsTo_1 : decode mW_leadsTo.2.1 1 = .ok (.iload_n 2, 1) := by decide +kernel
theorem dW_leadsTo_2 : decode mW_leadsTo.2.1 2 = .ok (.ishl, 1) := by decide +kernel
theorem dW_leadsTo_3 : decode mW_leadsTo.2.1 3 = .ok (.istore_n 3, 1) := by decide +kernel
theorem dW_leadsTo_4 : decode mW_leadsTo.2.1 4 = .ok (.iconst 0, 1) := by decide +kernel
theorem dW_leadsTo_5 : decode mW_leadsTo.2.1 5 = .ok (.istore 4, 2) := by decide +kernel
theorem dW_leadsTo_7 : decode mW_leadsTo.2.1 7 = .ok (.iload 4, 2) := by decide +kernel
theorem dW_leadsTo_9 : decode mW_leadsTo.2.1 9 = .ok (.aload_n 0, 1) := by decide +kernel
theorem dW_leadsTo_10 : decode mW_leadsTo.2.1 10 = .ok (.getfield 30, 3) := by decide +kernel
theorem dW_leadsTo_13 : decode mW_leadsTo.2.1 13 = .ok (.if_icmp .ge 58, 3) := by decide +kernel
theorem dW_leadsTo_16 : decode mW_leadsTo.2.1 16 = .ok (.iload_n 3, 1) := by decide +kernel
theorem dW_leadsTo_17 : decode mW_leadsTo.2.1 17 = .ok (.istore 5, 2) := by decide +kernel
theorem dW_leadsTo_19 : decode mW_leadsTo.2.1 19 = .ok (.iconst 0, 1) := by decide +kernel
theorem dW_leadsTo_20 : decode mW_leadsTo.2.1 20 = .ok (.istore 6, 2) := by decide +kernel
theorem dW_leadsTo_22 : decode mW_leadsTo.2.1 22 = .ok (.iload 6, 2) := by decide +kernel
theorem dW_leadsTo_24 : decode mW_leadsTo.2.1 24 = .ok (.aload_n 0, 1) := by decide +kernel
theorem dW_leadsTo_25 : decode mW_leadsTo.2.1 25 = .ok (.getfield 30, 3) := by decide +kernel
theorem dW_leadsTo_28 : decode mW_leadsTo.2.1 28 = .ok (.if_icmp .ge 34, 3) := by decide +kernel
theorem dW_leadsTo_31 : decode mW_leadsTo.2.1 31 = .ok (.iload 5, 2) := by decide +kernel
theorem dW_leadsTo_33 : decode mW_leadsTo.2.1 33 = .ok (.iload_n 3, 1) := by decide +kernel
theorem dW_leadsTo_34 : decode mW_leadsTo.2.1 34 = .ok (.iload 6, 2) := by decide +kernel
theorem dW_leadsTo_36 : decode mW_leadsTo.2.1 36 = .ok (.invokestatic 43, 3) := by decide +kernel
theorem dW_leadsTo_39 : decode mW_leadsTo.2.1 39 = .ok (.ifCond .eq 13, 3) := by decide +kernel
theorem dW_leadsTo_42 : decode mW_leadsTo.2.1 42 = .ok (.aload_n 0, 1) := by decide +kernel
theorem dW_leadsTo_43 : decode mW_leadsTo.2.1 43 = .ok (.getfield 21, 3) := by decide +kernel
theorem dW_leadsTo_46 : decode mW_leadsTo.2.1 46 = .ok (.iload 6, 2) := by decide +kernel
theorem dW_leadsTo_48 : decode mW_leadsTo.2.1 48 = .ok (.iaload, 1) := by decide +kernel
theorem dW_leadsTo_49 : decode mW_leadsTo.2.1 49 = .ok (.goto 4, 3) := by decide +kernel
theorem dW_leadsTo_52 : decode mW_leadsTo.2.1 52 = .ok (.iconst 0, 1) := by decide +kernel
theorem dW_leadsTo_53 : decode mW_leadsTo.2.1 53 = .ok (.ior, 1) := by decide +kernel
theorem dW_leadsTo_54 : decode mW_leadsTo.2.1 54 = .ok (.istore 5, 2) := by decide +kernel
theorem dW_leadsTo_56 : decode mW_leadsTo.2.1 56 = .ok (.iinc 6 1, 3) := by decide +kernel
theorem dW_leadsTo_59 : decode mW_leadsTo.2.1 59 = .ok (.goto (-37), 3) := by decide +kernel
theorem dW_leadsTo_62 : decode mW_leadsTo.2.1 62 = .ok (.iload 5, 2) := by decide +kernel
theorem dW_leadsTo_64 : decode mW_leadsTo.2.1 64 = .ok (.istore_n 3, 1) := by decide +kernel
theorem dW_leadsTo_65 : decode mW_leadsTo.2.1 65 = .ok (.iinc 4 1, 3) := by decide +kernel
theorem dW_leadsTo_68 : decode mW_leadsTo.2.1 68 = .ok (.goto (-61), 3) := by decide +kernel
theorem dW_leadsTo_71 : decode mW_leadsTo.2.1 71 = .ok (.iload_n 3, 1) := by decide +kernel
theorem dW_leadsTo_72 : decode mW_leadsTo.2.1 72 = .ok (.iload_n 1, 1) := by decide +kernel
theorem dW_leadsTo_73 : decode mW_leadsTo.2.1 73 = .ok (.invokestatic 43, 3) := by decide +kernel
theorem dW_leadsTo_76 : decode mW_leadsTo.2.1 76 = .ok (.ireturn, 1) := by decide +kernel
theorem dW_join_0 : decode mW_join.2.1 0 = .ok (.aload_n 0, 1) := by decide +kernel
theorem dW_join_1 : decode mW_join.2.1 1 = .ok (.getfield 21, 3) := by decide +kernel
theorem dW_join_4 : decode mW_join.2.1 4 = .ok (.iload_n 2, 1) := by decide +kernel
theorem dW_join_5 : decode mW_join.2.1 5 = .ok (.dup2, 1) := by decide +kernel
theorem dW_join_6 : decode mW_join.2.1 6 = .ok (.iaload, 1) := by decide +kernel
theorem dW_join_7 : decode mW_join.2.1 7 = .ok (.iconst 1, 1) := by decide +kernel
theorem dW_join_8 : decode mW_join.2.1 8 = .ok (.iload_n 1, 1) := by decide +kernel
theorem dW_join_9 : decode mW_join.2.1 9 = .ok (.ishl, 1) := by decide +kernel
theorem dW_join_10 : decode mW_join.2.1 10 = .ok (.ior, 1) := by decide +kernel
theorem dW_join_11 : decode mW_join.2.1 11 = .ok (.iastore, 1) := by decide +kernel
theorem dW_join_12 : decode mW_join.2.1 12 = .ok (.aload_n 0, 1) := by decide +kernel
theorem dW_join_13 : decode mW_join.2.1 13 = .ok (.getfield 24, 3) := by decide +kernel
theorem dW_join_16 : decode mW_join.2.1 16 = .ok (.iload_n 1, 1) := by decide +kernel
theorem dW_join_17 : decode mW_join.2.1 17 = .ok (.bipush 16, 2) := by decide +kernel
theorem dW_join_19 : decode mW_join.2.1 19 = .ok (.imul, 1) := by decide +kernel
theorem dW_join_20 : decode mW_join.2.1 20 = .ok (.iload_n 2, 1) := by decide +kernel
theorem dW_join_21 : decode mW_join.2.1 21 = .ok (.iadd, 1) := by decide +kernel
theorem dW_join_22 : decode mW_join.2.1 22 = .ok (.iload_n 3, 1) := by decide +kernel
theorem dW_join_23 : decode mW_join.2.1 23 = .ok (.iastore, 1) := by decide +kernel
theorem dW_join_24 : decode mW_join.2.1 24 = .ok (.aload_n 0, 1) := by decide +kernel
theorem dW_join_25 : decode mW_join.2.1 25 = .ok (.dup, 1) := by decide +kernel
theorem dW_join_26 : decode mW_join.2.1 26 = .ok (.getfield 34, 3) := by decide +kernel
theorem dW_join_29 : decode mW_join.2.1 29 = .ok (.iconst 1, 1) := by decide +kernel
theorem dW_join_30 : decode mW_join.2.1 30 = .ok (.iadd, 1) := by decide +kernel
theorem dW_join_31 : decode mW_join.2.1 31 = .ok (.putfield 34, 3) := by decide +kernel
theorem dW_join_34 : decode mW_join.2.1 34 = .ok (.aload_n 0, 1) := by decide +kernel
theorem dW_join_35 : decode mW_join.2.1 35 = .ok (.invokevirtual 47, 3) := by decide +kernel
theorem dW_join_38 : decode mW_join.2.1 38 = .ok (.aload_n 0, 1) := by decide +kernel
theorem dW_join_39 : decode mW_join.2.1 39 = .ok (.getfield 34, 3) := by decide +kernel
theorem dW_join_42 : decode mW_join.2.1 42 = .ok (.ireturn, 1) := by decide +kernel
theorem dW_arrange_0 : decode mW_arrange.2.1 0 = .ok (.iconst 0, 1) := by decide +kernel
theorem dW_arrange_1 : decode mW_arrange.2.1 1 = .ok (.istore_n 1, 1) := by decide +kernel
theorem dW_arrange_2 : decode mW_arrange.2.1 2 = .ok (.iconst 0, 1) := by decide +kernel
theorem dW_arrange_3 : decode mW_arrange.2.1 3 = .ok (.istore_n 2, 1) := by decide +kernel
theorem dW_arrange_4 : decode mW_arrange.2.1 4 = .ok (.iload_n 2, 1) := by decide +kernel
theorem dW_arrange_5 : decode mW_arrange.2.1 5 = .ok (.aload_n 0, 1) := by decide +kernel
theorem dW_arrange_6 : decode mW_arrange.2.1 6 = .ok (.getfield 30, 3) := by decide +kernel
theorem dW_arrange_9 : decode mW_arrange.2.1 9 = .ok (.if_icmp .ge 28, 3) := by decide +kernel
theorem dW_arrange_12 : decode mW_arrange.2.1 12 = .ok (.aload_n 0, 1) := by decide +kernel
theorem dW_arrange_13 : decode mW_arrange.2.1 13 = .ok (.iload_n 1, 1) := by decide +kernel
theorem dW_arrange_14 : decode mW_arrange.2.1 14 = .ok (.invokevirtual 56, 3) := by decide +kernel
theorem dW_arrange_17 : decode mW_arrange.2.1 17 = .ok (.istore_n 3, 1) := by decide +kernel
theorem dW_arrange_18 : decode mW_arrange.2.1 18 = .ok (.aload_n 0, 1) := by decide +kernel
theorem dW_arrange_19 : decode mW_arrange.2.1 19 = .ok (.getfield 27, 3) := by decide +kernel
theorem dW_arrange_22 : decode mW_arrange.2.1 22 = .ok (.iload_n 2, 1) := by decide +kernel
theorem dW_arrange_23 : decode mW_arrange.2.1 23 = .ok (.iload_n 3, 1) := by decide +kernel
theorem dW_arrange_24 : decode mW_arrange.2.1 24 = .ok (.iastore, 1) := by decide +kernel
theorem dW_arrange_25 : decode mW_arrange.2.1 25 = .ok (.iload_n 1, 1) := by decide +kernel
theorem dW_arrange_26 : decode mW_arrange.2.1 26 = .ok (.iconst 1, 1) := by decide +kernel
theorem dW_arrange_27 : decode mW_arrange.2.1 27 = .ok (.iload_n 3, 1) := by decide +kernel
theorem dW_arrange_28 : decode mW_arrange.2.1 28 = .ok (.ishl, 1) := by decide +kernel
theorem dW_arrange_29 : decode mW_arrange.2.1 29 = .ok (.ior, 1) := by decide +kernel
theorem dW_arrange_30 : decode mW_arrange.2.1 30 = .ok (.istore_n 1, 1) := by decide +kernel
theorem dW_arrange_31 : decode mW_arrange.2.1 31 = .ok (.iinc 2 1, 3) := by decide +kernel
theorem dW_arrange_34 : decode mW_arrange.2.1 34 = .ok (.goto (-30), 3) := by decide +kernel
theorem dW_arrange_37 : decode mW_arrange.2.1 37 = .ok (.return_, 1) := by decide +kernel
theorem dW_nextAfter_0 : decode mW_nextAfter.2.1 0 = .ok (.iconst 0, 1) := by decide +kernel
theorem dW_nextAfter_1 : decode mW_nextAfter.2.1 1 = .ok (.istore_n 2, 1) := by decide +kernel
theorem dW_nextAfter_2 : decode mW_nextAfter.2.1 2 = .ok (.iload_n 2, 1) := by decide +kernel
theorem dW_nextAfter_3 : decode mW_nextAfter.2.1 3 = .ok (.aload_n 0, 1) := by decide +kernel
theorem dW_nextAfter_4 : decode mW_nextAfter.2.1 4 = .ok (.getfield 30, 3) := by decide +kernel
theorem dW_nextAfter_7 : decode mW_nextAfter.2.1 7 = .ok (.if_icmp .ge 32, 3) := by decide +kernel
theorem dW_nextAfter_10 : decode mW_nextAfter.2.1 10 = .ok (.iload_n 1, 1) := by decide +kernel
theorem dW_nextAfter_11 : decode mW_nextAfter.2.1 11 = .ok (.iload_n 2, 1) := by decide +kernel
theorem dW_nextAfter_12 : decode mW_nextAfter.2.1 12 = .ok (.invokestatic 43, 3) := by decide +kernel
theorem dW_nextAfter_15 : decode mW_nextAfter.2.1 15 = .ok (.ifCond .ne 18, 3) := by decide +kernel
theorem dW_nextAfter_18 : decode mW_nextAfter.2.1 18 = .ok (.aload_n 0, 1) := by decide +kernel
theorem dW_nextAfter_19 : decode mW_nextAfter.2.1 19 = .ok (.getfield 21, 3) := by decide +kernel
theorem dW_nextAfter_22 : decode mW_nextAfter.2.1 22 = .ok (.iload_n 2, 1) := by decide +kernel
theorem dW_nextAfter_23 : decode mW_nextAfter.2.1 23 = .ok (.iaload, 1) := by decide +kernel
theorem dW_nextAfter_24 : decode mW_nextAfter.2.1 24 = .ok (.iload_n 1, 1) := by decide +kernel
theorem dW_nextAfter_25 : decode mW_nextAfter.2.1 25 = .ok (.iconst (-1), 1) := by decide +kernel
theorem dW_nextAfter_26 : decode mW_nextAfter.2.1 26 = .ok (.ixor, 1) := by decide +kernel
theorem dW_nextAfter_27 : decode mW_nextAfter.2.1 27 = .ok (.iand, 1) := by decide +kernel
theorem dW_nextAfter_28 : decode mW_nextAfter.2.1 28 = .ok (.ifCond .ne 5, 3) := by decide +kernel
theorem dW_nextAfter_31 : decode mW_nextAfter.2.1 31 = .ok (.iload_n 2, 1) := by decide +kernel
theorem dW_nextAfter_32 : decode mW_nextAfter.2.1 32 = .ok (.ireturn, 1) := by decide +kernel
theorem dW_nextAfter_33 : decode mW_nextAfter.2.1 33 = .ok (.iinc 2 1, 3) := by decide +kernel
theorem dW_nextAfter_36 : decode mW_nextAfter.2.1 36 = .ok (.goto (-34), 3) := by decide +kernel
theorem dW_nextAfter_39 : decode mW_nextAfter.2.1 39 = .ok (.iconst 0, 1) := by decide +kernel
theorem dW_nextAfter_40 : decode mW_nextAfter.2.1 40 = .ok (.ireturn, 1) := by decide +kernel
theorem dW_loosen_0 : decode mW_loosen.2.1 0 = .ok (.aload_n 0, 1) := by decide +kernel
theorem dW_loosen_1 : decode mW_loosen.2.1 1 = .ok (.getfield 21, 3) := by decide +kernel
theorem dW_loosen_4 : decode mW_loosen.2.1 4 = .ok (.iload_n 2, 1) := by decide +kernel
theorem dW_loosen_5 : decode mW_loosen.2.1 5 = .ok (.dup2, 1) := by decide +kernel
theorem dW_loosen_6 : decode mW_loosen.2.1 6 = .ok (.iaload, 1) := by decide +kernel
theorem dW_loosen_7 : decode mW_loosen.2.1 7 = .ok (.iconst 1, 1) := by decide +kernel
theorem dW_loosen_8 : decode mW_loosen.2.1 8 = .ok (.iload_n 1, 1) := by decide +kernel
theorem dW_loosen_9 : decode mW_loosen.2.1 9 = .ok (.ishl, 1) := by decide +kernel
theorem dW_loosen_10 : decode mW_loosen.2.1 10 = .ok (.iconst (-1), 1) := by decide +kernel
theorem dW_loosen_11 : decode mW_loosen.2.1 11 = .ok (.ixor, 1) := by decide +kernel
theorem dW_loosen_12 : decode mW_loosen.2.1 12 = .ok (.iand, 1) := by decide +kernel
theorem dW_loosen_13 : decode mW_loosen.2.1 13 = .ok (.iastore, 1) := by decide +kernel
theorem dW_loosen_14 : decode mW_loosen.2.1 14 = .ok (.aload_n 0, 1) := by decide +kernel
theorem dW_loosen_15 : decode mW_loosen.2.1 15 = .ok (.dup, 1) := by decide +kernel
theorem dW_loosen_16 : decode mW_loosen.2.1 16 = .ok (.getfield 34, 3) := by decide +kernel
theorem dW_loosen_19 : decode mW_loosen.2.1 19 = .ok (.iconst 1, 1) := by decide +kernel
theorem dW_loosen_20 : decode mW_loosen.2.1 20 = .ok (.isub, 1) := by decide +kernel
theorem dW_loosen_21 : decode mW_loosen.2.1 21 = .ok (.putfield 34, 3) := by decide +kernel
theorem dW_loosen_24 : decode mW_loosen.2.1 24 = .ok (.aload_n 0, 1) := by decide +kernel
theorem dW_loosen_25 : decode mW_loosen.2.1 25 = .ok (.getfield 24, 3) := by decide +kernel
theorem dW_loosen_28 : decode mW_loosen.2.1 28 = .ok (.iload_n 1, 1) := by decide +kernel
theorem dW_loosen_29 : decode mW_loosen.2.1 29 = .ok (.bipush 16, 2) := by decide +kernel
theorem dW_loosen_31 : decode mW_loosen.2.1 31 = .ok (.imul, 1) := by decide +kernel
theorem dW_loosen_32 : decode mW_loosen.2.1 32 = .ok (.iload_n 2, 1) := by decide +kernel
theorem dW_loosen_33 : decode mW_loosen.2.1 33 = .ok (.iadd, 1) := by decide +kernel
theorem dW_loosen_34 : decode mW_loosen.2.1 34 = .ok (.iaload, 1) := by decide +kernel
theorem dW_loosen_35 : decode mW_loosen.2.1 35 = .ok (.ireturn, 1) := by decide +kernel
theorem dW_readyBy_0 : decode mW_readyBy.2.1 0 = .ok (.iconst 0, 1) := by decide +kernel
theorem dW_readyBy_1 : decode mW_readyBy.2.1 1 = .ok (.istore_n 3, 1) := by decide +kernel
theorem dW_readyBy_2 : decode mW_readyBy.2.1 2 = .ok (.aload_n 0, 1) := by decide +kernel
theorem dW_readyBy_3 : decode mW_readyBy.2.1 3 = .ok (.getfield 21, 3) := by decide +kernel
theorem dW_readyBy_6 : decode mW_readyBy.2.1 6 = .ok (.iload_n 1, 1) := by decide +kernel
theorem dW_readyBy_7 : decode mW_readyBy.2.1 7 = .ok (.iaload, 1) := by decide +kernel
theorem dW_readyBy_8 : decode mW_readyBy.2.1 8 = .ok (.istore 4, 2) := by decide +kernel
theorem dW_readyBy_10 : decode mW_readyBy.2.1 10 = .ok (.iconst 0, 1) := by decide +kernel
theorem dW_readyBy_11 : decode mW_readyBy.2.1 11 = .ok (.istore 5, 2) := by decide +kernel
theorem dW_readyBy_13 : decode mW_readyBy.2.1 13 = .ok (.iload 5, 2) := by decide +kernel
theorem dW_readyBy_15 : decode mW_readyBy.2.1 15 = .ok (.aload_n 0, 1) := by decide +kernel
theorem dW_readyBy_16 : decode mW_readyBy.2.1 16 = .ok (.getfield 30, 3) := by decide +kernel
theorem dW_readyBy_19 : decode mW_readyBy.2.1 19 = .ok (.if_icmp .ge 49, 3) := by decide +kernel
theorem dW_readyBy_22 : decode mW_readyBy.2.1 22 = .ok (.iload 4, 2) := by decide +kernel
theorem dW_readyBy_24 : decode mW_readyBy.2.1 24 = .ok (.ifCond .eq 44, 3) := by decide +kernel
theorem dW_readyBy_27 : decode mW_readyBy.2.1 27 = .ok (.iload 4, 2) := by decide +kernel
theorem dW_readyBy_29 : decode mW_readyBy.2.1 29 = .ok (.iconst 1, 1) := by decide +kernel
theorem dW_readyBy_30 : decode mW_readyBy.2.1 30 = .ok (.iand, 1) := by decide +kernel
theorem dW_readyBy_31 : decode mW_readyBy.2.1 31 = .ok (.ifCond .eq 25, 3) := by decide +kernel
theorem dW_readyBy_34 : decode mW_readyBy.2.1 34 = .ok (.iload_n 3, 1) := by decide +kernel
theorem dW_readyBy_35 : decode mW_readyBy.2.1 35 = .ok (.aload_n 2, 1) := by decide +kernel
theorem dW_readyBy_36 : decode mW_readyBy.2.1 36 = .ok (.iload 5, 2) := by decide +kernel
theorem dW_readyBy_38 : decode mW_readyBy.2.1 38 = .ok (.iaload, 1) := by decide +kernel
theorem dW_readyBy_39 : decode mW_readyBy.2.1 39 = .ok (.aload_n 0, 1) := by decide +kernel
theorem dW_readyBy_40 : decode mW_readyBy.2.1 40 = .ok (.getfield 24, 3) := by decide +kernel
theorem dW_readyBy_43 : decode mW_readyBy.2.1 43 = .ok (.iload 5, 2) := by decide +kernel
theorem dW_readyBy_45 : decode mW_readyBy.2.1 45 = .ok (.bipush 16, 2) := by decide +kernel
theorem dW_readyBy_47 : decode mW_readyBy.2.1 47 = .ok (.imul, 1) := by decide +kernel
theorem dW_readyBy_48 : decode mW_readyBy.2.1 48 = .ok (.iload_n 1, 1) := by decide +kernel
theorem dW_readyBy_49 : decode mW_readyBy.2.1 49 = .ok (.iadd, 1) := by decide +kernel
theorem dW_readyBy_50 : decode mW_readyBy.2.1 50 = .ok (.iaload, 1) := by decide +kernel
theorem dW_readyBy_51 : decode mW_readyBy.2.1 51 = .ok (.iadd, 1) := by decide +kernel
theorem dW_readyBy_52 : decode mW_readyBy.2.1 52 = .ok (.invokestatic 50, 3) := by decide +kernel
theorem dW_readyBy_55 : decode mW_readyBy.2.1 55 = .ok (.istore_n 3, 1) := by decide +kernel
theorem dW_readyBy_56 : decode mW_readyBy.2.1 56 = .ok (.iload 4, 2) := by decide +kernel
theorem dW_readyBy_58 : decode mW_readyBy.2.1 58 = .ok (.iconst 1, 1) := by decide +kernel
theorem dW_readyBy_59 : decode mW_readyBy.2.1 59 = .ok (.ishr, 1) := by decide +kernel
theorem dW_readyBy_60 : decode mW_readyBy.2.1 60 = .ok (.istore 4, 2) := by decide +kernel
theorem dW_readyBy_62 : decode mW_readyBy.2.1 62 = .ok (.iinc 5 1, 3) := by decide +kernel
theorem dW_readyBy_65 : decode mW_readyBy.2.1 65 = .ok (.goto (-52), 3) := by decide +kernel
theorem dW_readyBy_68 : decode mW_readyBy.2.1 68 = .ok (.iload_n 3, 1) := by decide +kernel
theorem dW_readyBy_69 : decode mW_readyBy.2.1 69 = .ok (.ireturn, 1) := by decide +kernel
theorem dW_copy_0 : decode mW_copy.2.1 0 = .ok (.aload_n 1, 1) := by decide +kernel
theorem dW_copy_1 : decode mW_copy.2.1 1 = .ok (.getfield 9, 3) := by decide +kernel
theorem dW_copy_4 : decode mW_copy.2.1 4 = .ok (.iconst 0, 1) := by decide +kernel
theorem dW_copy_5 : decode mW_copy.2.1 5 = .ok (.aload_n 0, 1) := by decide +kernel
theorem dW_copy_6 : decode mW_copy.2.1 6 = .ok (.getfield 9, 3) := by decide +kernel
theorem dW_copy_9 : decode mW_copy.2.1 9 = .ok (.iconst 0, 1) := by decide +kernel
theorem dW_copy_10 : decode mW_copy.2.1 10 = .ok (.bipush 16, 2) := by decide +kernel
theorem dW_copy_12 : decode mW_copy.2.1 12 = .ok (.invokestatic 37, 3) := by decide +kernel
theorem dW_copy_15 : decode mW_copy.2.1 15 = .ok (.aload_n 1, 1) := by decide +kernel
theorem dW_copy_16 : decode mW_copy.2.1 16 = .ok (.getfield 15, 3) := by decide +kernel
theorem dW_copy_19 : decode mW_copy.2.1 19 = .ok (.iconst 0, 1) := by decide +kernel
theorem dW_copy_20 : decode mW_copy.2.1 20 = .ok (.aload_n 0, 1) := by decide +kernel
theorem dW_copy_21 : decode mW_copy.2.1 21 = .ok (.getfield 15, 3) := by decide +kernel
theorem dW_copy_24 : decode mW_copy.2.1 24 = .ok (.iconst 0, 1) := by decide +kernel
theorem dW_copy_25 : decode mW_copy.2.1 25 = .ok (.bipush 16, 2) := by decide +kernel
theorem dW_copy_27 : decode mW_copy.2.1 27 = .ok (.invokestatic 37, 3) := by decide +kernel
theorem dW_copy_30 : decode mW_copy.2.1 30 = .ok (.aload_n 1, 1) := by decide +kernel
theorem dW_copy_31 : decode mW_copy.2.1 31 = .ok (.getfield 18, 3) := by decide +kernel
theorem dW_copy_34 : decode mW_copy.2.1 34 = .ok (.iconst 0, 1) := by decide +kernel
theorem dW_copy_35 : decode mW_copy.2.1 35 = .ok (.aload_n 0, 1) := by decide +kernel
theorem dW_copy_36 : decode mW_copy.2.1 36 = .ok (.getfield 18, 3) := by decide +kernel
theorem dW_copy_39 : decode mW_copy.2.1 39 = .ok (.iconst 0, 1) := by decide +kernel
theorem dW_copy_40 : decode mW_copy.2.1 40 = .ok (.bipush 16, 2) := by decide +kernel
theorem dW_copy_42 : decode mW_copy.2.1 42 = .ok (.invokestatic 37, 3) := by decide +kernel
theorem dW_copy_45 : decode mW_copy.2.1 45 = .ok (.aload_n 1, 1) := by decide +kernel
theorem dW_copy_46 : decode mW_copy.2.1 46 = .ok (.getfield 21, 3) := by decide +kernel
theorem dW_copy_49 : decode mW_copy.2.1 49 = .ok (.iconst 0, 1) := by decide +kernel
theorem dW_copy_50 : decode mW_copy.2.1 50 = .ok (.aload_n 0, 1) := by decide +kernel
theorem dW_copy_51 : decode mW_copy.2.1 51 = .ok (.getfield 21, 3) := by decide +kernel
theorem dW_copy_54 : decode mW_copy.2.1 54 = .ok (.iconst 0, 1) := by decide +kernel
theorem dW_copy_55 : decode mW_copy.2.1 55 = .ok (.bipush 16, 2) := by decide +kernel
theorem dW_copy_57 : decode mW_copy.2.1 57 = .ok (.invokestatic 37, 3) := by decide +kernel
theorem dW_copy_60 : decode mW_copy.2.1 60 = .ok (.aload_n 1, 1) := by decide +kernel
theorem dW_copy_61 : decode mW_copy.2.1 61 = .ok (.getfield 24, 3) := by decide +kernel
theorem dW_copy_64 : decode mW_copy.2.1 64 = .ok (.iconst 0, 1) := by decide +kernel
theorem dW_copy_65 : decode mW_copy.2.1 65 = .ok (.aload_n 0, 1) := by decide +kernel
theorem dW_copy_66 : decode mW_copy.2.1 66 = .ok (.getfield 24, 3) := by decide +kernel
theorem dW_copy_69 : decode mW_copy.2.1 69 = .ok (.iconst 0, 1) := by decide +kernel
theorem dW_copy_70 : decode mW_copy.2.1 70 = .ok (.sipush 256, 3) := by decide +kernel
theorem dW_copy_73 : decode mW_copy.2.1 73 = .ok (.invokestatic 37, 3) := by decide +kernel
theorem dW_copy_76 : decode mW_copy.2.1 76 = .ok (.aload_n 1, 1) := by decide +kernel
theorem dW_copy_77 : decode mW_copy.2.1 77 = .ok (.getfield 27, 3) := by decide +kernel
theorem dW_copy_80 : decode mW_copy.2.1 80 = .ok (.iconst 0, 1) := by decide +kernel
theorem dW_copy_81 : decode mW_copy.2.1 81 = .ok (.aload_n 0, 1) := by decide +kernel
theorem dW_copy_82 : decode mW_copy.2.1 82 = .ok (.getfield 27, 3) := by decide +kernel
theorem dW_copy_85 : decode mW_copy.2.1 85 = .ok (.iconst 0, 1) := by decide +kernel
theorem dW_copy_86 : decode mW_copy.2.1 86 = .ok (.bipush 16, 2) := by decide +kernel
theorem dW_copy_88 : decode mW_copy.2.1 88 = .ok (.invokestatic 37, 3) := by decide +kernel
theorem dW_copy_91 : decode mW_copy.2.1 91 = .ok (.aload_n 0, 1) := by decide +kernel
theorem dW_copy_92 : decode mW_copy.2.1 92 = .ok (.aload_n 1, 1) := by decide +kernel
theorem dW_copy_93 : decode mW_copy.2.1 93 = .ok (.getfield 30, 3) := by decide +kernel
theorem dW_copy_96 : decode mW_copy.2.1 96 = .ok (.putfield 30, 3) := by decide +kernel
theorem dW_copy_99 : decode mW_copy.2.1 99 = .ok (.aload_n 0, 1) := by decide +kernel
theorem dW_copy_100 : decode mW_copy.2.1 100 = .ok (.aload_n 1, 1) := by decide +kernel
theorem dW_copy_101 : decode mW_copy.2.1 101 = .ok (.getfield 34, 3) := by decide +kernel
theorem dW_copy_104 : decode mW_copy.2.1 104 = .ok (.putfield 34, 3) := by decide +kernel
theorem dW_copy_107 : decode mW_copy.2.1 107 = .ok (.return_, 1) := by decide +kernel
theorem dJ_bitCount_0 : decode mJ_bitCount.2.1 0 = .ok (.iload_n 0, 1) := by decide +kernel
theorem dJ_bitCount_1 : decode mJ_bitCount.2.1 1 = .ok (.iload_n 0, 1) := by decide +kernel
theorem dJ_bitCount_2 : decode mJ_bitCount.2.1 2 = .ok (.iconst 1, 1) := by decide +kernel
theorem dJ_bitCount_3 : decode mJ_bitCount.2.1 3 = .ok (.iushr, 1) := by decide +kernel
theorem dJ_bitCount_4 : decode mJ_bitCount.2.1 4 = .ok (.ldc_w 265, 3) := by decide +kernel
theorem dJ_bitCount_7 : decode mJ_bitCount.2.1 7 = .ok (.iand, 1) := by decide +kernel
theorem dJ_bitCount_8 : decode mJ_bitCount.2.1 8 = .ok (.isub, 1) := by decide +kernel
theorem dJ_bitCount_9 : decode mJ_bitCount.2.1 9 = .ok (.istore_n 0, 1) := by decide +kernel
theorem dJ_bitCount_10 : decode mJ_bitCount.2.1 10 = .ok (.iload_n 0, 1) := by decide +kernel
theorem dJ_bitCount_11 : decode mJ_bitCount.2.1 11 = .ok (.ldc_w 266, 3) := by decide +kernel
theorem dJ_bitCount_14 : decode mJ_bitCount.2.1 14 = .ok (.iand, 1) := by decide +kernel
theorem dJ_bitCount_15 : decode mJ_bitCount.2.1 15 = .ok (.iload_n 0, 1) := by decide +kernel
theorem dJ_bitCount_16 : decode mJ_bitCount.2.1 16 = .ok (.iconst 2, 1) := by decide +kernel
theorem dJ_bitCount_17 : decode mJ_bitCount.2.1 17 = .ok (.iushr, 1) := by decide +kernel
theorem dJ_bitCount_18 : decode mJ_bitCount.2.1 18 = .ok (.ldc_w 266, 3) := by decide +kernel
theorem dJ_bitCount_21 : decode mJ_bitCount.2.1 21 = .ok (.iand, 1) := by decide +kernel
theorem dJ_bitCount_22 : decode mJ_bitCount.2.1 22 = .ok (.iadd, 1) := by decide +kernel
theorem dJ_bitCount_23 : decode mJ_bitCount.2.1 23 = .ok (.istore_n 0, 1) := by decide +kernel
theorem dJ_bitCount_24 : decode mJ_bitCount.2.1 24 = .ok (.iload_n 0, 1) := by decide +kernel
theorem dJ_bitCount_25 : decode mJ_bitCount.2.1 25 = .ok (.iload_n 0, 1) := by decide +kernel
theorem dJ_bitCount_26 : decode mJ_bitCount.2.1 26 = .ok (.iconst 4, 1) := by decide +kernel
theorem dJ_bitCount_27 : decode mJ_bitCount.2.1 27 = .ok (.iushr, 1) := by decide +kernel
theorem dJ_bitCount_28 : decode mJ_bitCount.2.1 28 = .ok (.iadd, 1) := by decide +kernel
theorem dJ_bitCount_29 : decode mJ_bitCount.2.1 29 = .ok (.ldc_w 267, 3) := by decide +kernel
theorem dJ_bitCount_32 : decode mJ_bitCount.2.1 32 = .ok (.iand, 1) := by decide +kernel
theorem dJ_bitCount_33 : decode mJ_bitCount.2.1 33 = .ok (.istore_n 0, 1) := by decide +kernel
theorem dJ_bitCount_34 : decode mJ_bitCount.2.1 34 = .ok (.iload_n 0, 1) := by decide +kernel
theorem dJ_bitCount_35 : decode mJ_bitCount.2.1 35 = .ok (.iload_n 0, 1) := by decide +kernel
theorem dJ_bitCount_36 : decode mJ_bitCount.2.1 36 = .ok (.bipush 8, 2) := by decide +kernel
theorem dJ_bitCount_38 : decode mJ_bitCount.2.1 38 = .ok (.iushr, 1) := by decide +kernel
theorem dJ_bitCount_39 : decode mJ_bitCount.2.1 39 = .ok (.iadd, 1) := by decide +kernel
theorem dJ_bitCount_40 : decode mJ_bitCount.2.1 40 = .ok (.istore_n 0, 1) := by decide +kernel
theorem dJ_bitCount_41 : decode mJ_bitCount.2.1 41 = .ok (.iload_n 0, 1) := by decide +kernel
theorem dJ_bitCount_42 : decode mJ_bitCount.2.1 42 = .ok (.iload_n 0, 1) := by decide +kernel
theorem dJ_bitCount_43 : decode mJ_bitCount.2.1 43 = .ok (.bipush 16, 2) := by decide +kernel
theorem dJ_bitCount_45 : decode mJ_bitCount.2.1 45 = .ok (.iushr, 1) := by decide +kernel
theorem dJ_bitCount_46 : decode mJ_bitCount.2.1 46 = .ok (.iadd, 1) := by decide +kernel
theorem dJ_bitCount_47 : decode mJ_bitCount.2.1 47 = .ok (.istore_n 0, 1) := by decide +kernel
theorem dJ_bitCount_48 : decode mJ_bitCount.2.1 48 = .ok (.iload_n 0, 1) := by decide +kernel
theorem dJ_bitCount_49 : decode mJ_bitCount.2.1 49 = .ok (.bipush 63, 2) := by decide +kernel
theorem dJ_bitCount_51 : decode mJ_bitCount.2.1 51 = .ok (.iand, 1) := by decide +kernel
theorem dJ_bitCount_52 : decode mJ_bitCount.2.1 52 = .ok (.ireturn, 1) := by decide +kernel
theorem dJ_max_0 : decode mJ_max.2.1 0 = .ok (.iload_n 0, 1) := by decide +kernel
theorem dJ_max_1 : decode mJ_max.2.1 1 = .ok (.iload_n 1, 1) := by decide +kernel
theorem dJ_max_2 : decode mJ_max.2.1 2 = .ok (.if_icmp .lt 7, 3) := by decide +kernel
theorem dJ_max_5 : decode mJ_max.2.1 5 = .ok (.iload_n 0, 1) := by decide +kernel
theorem dJ_max_6 : decode mJ_max.2.1 6 = .ok (.goto 4, 3) := by decide +kernel
theorem dJ_max_9 : decode mJ_max.2.1 9 = .ok (.iload_n 1, 1) := by decide +kernel
theorem dJ_max_10 : decode mJ_max.2.1 10 = .ok (.ireturn, 1) := by decide +kernel
theorem dJ_min_0 : decode mJ_min.2.1 0 = .ok (.iload_n 0, 1) := by decide +kernel
theorem dJ_min_1 : decode mJ_min.2.1 1 = .ok (.iload_n 1, 1) := by decide +kernel
theorem dJ_min_2 : decode mJ_min.2.1 2 = .ok (.if_icmp .gt 7, 3) := by decide +kernel
theorem dJ_min_5 : decode mJ_min.2.1 5 = .ok (.iload_n 0, 1) := by decide +kernel
theorem dJ_min_6 : decode mJ_min.2.1 6 = .ok (.goto 4, 3) := by decide +kernel
theorem dJ_min_9 : decode mJ_min.2.1 9 = .ok (.iload_n 1, 1) := by decide +kernel
theorem dJ_min_10 : decode mJ_min.2.1 10 = .ok (.ireturn, 1) := by decide +kernel
