theorem dX8_of_23 : decode cX8_of 23 = .ok (.iload_n 2, 1) := by decide +kernel
theorem dX8_of_24 : decode cX8_of 24 = .ok (.iconst 0, 1) := by decide +kernel
theorem dX8_of_25 : decode cX8_of 25 = .ok (.iconst 3, 1) := by decide +kernel
theorem dX8_of_26 : decode cX8_of 26 = .ok (.invokestatic 39, 3) := by decide +kernel
theorem dX8_of_29 : decode cX8_of 29 = .ok (.ifCond .eq 16, 3) := by decide +kernel
theorem dX8_of_32 : decode cX8_of 32 = .ok (.aload_n 0, 1) := by decide +kernel
theorem dX8_of_33 : decode cX8_of 33 = .ok (.getfield 7, 3) := by decide +kernel
theorem dX8_of_36 : decode cX8_of 36 = .ok (.iload_n 1, 1) := by decide +kernel
theorem dX8_of_37 : decode cX8_of 37 = .ok (.iload_n 2, 1) := by decide +kernel
theorem dX8_of_38 : decode cX8_of 38 = .ok (.invokestatic 47, 3) := by decide +kernel
theorem dX8_of_41 : decode cX8_of 41 = .ok (.iaload, 1) := by decide +kernel
theorem dX8_of_42 : decode cX8_of 42 = .ok (.goto 30, 3) := by decide +kernel
theorem dX8_of_45 : decode cX8_of 45 = .ok (.iload_n 2, 1) := by decide +kernel
theorem dX8_of_46 : decode cX8_of 46 = .ok (.iconst 5, 1) := by decide +kernel
theorem dX8_of_47 : decode cX8_of 47 = .ok (.bipush 10, 2) := by decide +kernel
theorem dX8_of_49 : decode cX8_of 49 = .ok (.invokestatic 39, 3) := by decide +kernel
theorem dX8_of_52 : decode cX8_of 52 = .ok (.ifCond .eq 18, 3) := by decide +kernel
theorem dX8_of_55 : decode cX8_of 55 = .ok (.aload_n 0, 1) := by decide +kernel
theorem dX8_of_56 : decode cX8_of 56 = .ok (.getfield 7, 3) := by decide +kernel
theorem dX8_of_59 : decode cX8_of 59 = .ok (.iload_n 1, 1) := by decide +kernel
theorem dX8_of_60 : decode cX8_of 60 = .ok (.iload_n 2, 1) := by decide +kernel
theorem dX8_of_61 : decode cX8_of 61 = .ok (.iconst 1, 1) := by decide +kernel
theorem dX8_of_62 : decode cX8_of 62 = .ok (.isub, 1) := by decide +kernel
theorem dX8_of_63 : decode cX8_of 63 = .ok (.invokestatic 47, 3) := by decide +kernel
theorem dX8_of_66 : decode cX8_of 66 = .ok (.iaload, 1) := by decide +kernel
theorem dX8_of_67 : decode cX8_of 67 = .ok (.goto 5, 3) := by decide +kernel
theorem dX8_of_70 : decode cX8_of 70 = .ok (.bipush (-2), 2) := by decide +kernel
theorem dX8_of_72 : decode cX8_of 72 = .ok (.ireturn, 1) := by decide +kernel
theorem dX8_couldBeGiven_0 : decode cX8_couldBeGiven 0 = .ok (.iconst 0, 1) := by decide +kernel
theorem dX8_couldBeGiven_1 : decode cX8_couldBeGiven 1 = .ok (.istore_n 2, 1) := by decide +kernel
theorem dX8_couldBeGiven_2 : decode cX8_couldBeGiven 2 = .ok (.iconst 0, 1) := by decide +kernel
theorem dX8_couldBeGiven_3 : decode cX8_couldBeGiven 3 = .ok (.istore_n 3, 1) := by decide +kernel
theorem dX8_couldBeGiven_4 : decode cX8_couldBeGiven 4 = .ok (.iload_n 3, 1) := by decide +kernel
theorem dX8_couldBeGiven_5 : decode cX8_couldBeGiven 5 = .ok (.aload_n 0, 1) := by decide +kernel
theorem dX8_couldBeGiven_6 : decode cX8_couldBeGiven 6 = .ok (.getfield 7, 3) := by decide +kernel
theorem dX8_couldBeGiven_9 : decode cX8_couldBeGiven 9 = .ok (.iconst 5, 1) := by decide +kernel
theorem dX8_couldBeGiven_10 : decode cX8_couldBeGiven 10 = .ok (.iaload, 1) := by decide +kernel
theorem dX8_couldBeGiven_11 : decode cX8_couldBeGiven 11 = .ok (.if_icmp .ge 28, 3) := by decide +kernel
theorem dX8_couldBeGiven_14 : decode cX8_couldBeGiven 14 = .ok (.iload_n 2, 1) := by decide +kernel
theorem dX8_couldBeGiven_15 : decode cX8_couldBeGiven 15 = .ok (.aload_n 0, 1) := by decide +kernel
theorem dX8_couldBeGiven_16 : decode cX8_couldBeGiven 16 = .ok (.iload_n 1, 1) := by decide +kernel
theorem dX8_couldBeGiven_17 : decode cX8_couldBeGiven 17 = .ok (.iload_n 3, 1) := by decide +kernel
theorem dX8_couldBeGiven_18 : decode cX8_couldBeGiven 18 = .ok (.invokevirtual 119, 3) := by decide +kernel
theorem dX8_couldBeGiven_21 : decode cX8_couldBeGiven 21 = .ok (.ifCond .eq 9, 3) := by decide +kernel
theorem dX8_couldBeGiven_24 : decode cX8_couldBeGiven 24 = .ok (.iconst 1, 1) := by decide +kernel
theorem dX8_couldBeGiven_25 : decode cX8_couldBeGiven 25 = .ok (.iload_n 3, 1) := by decide +kernel
theorem dX8_couldBeGiven_26 : decode cX8_couldBeGiven 26 = .ok (.ishl, 1) := by decide +kernel
theorem dX8_couldBeGiven_27 : decode cX8_couldBeGiven 27 = .ok (.goto 4, 3) := by decide +kernel
theorem dX8_couldBeGiven_30 : decode cX8_couldBeGiven 30 = .ok (.iconst 0, 1) := by decide +kernel
theorem dX8_couldBeGiven_31 : decode cX8_couldBeGiven 31 = .ok (.ior, 1) := by decide +kernel
theorem dX8_couldBeGiven_32 : decode cX8_couldBeGiven 32 = .ok (.istore_n 2, 1) := by decide +kernel
theorem dX8_couldBeGiven_33 : decode cX8_couldBeGiven 33 = .ok (.iinc 3 1, 3) := by decide +kernel
theorem dX8_couldBeGiven_36 : decode cX8_couldBeGiven 36 = .ok (.goto (-32), 3) := by decide +kernel
theorem dX8_couldBeGiven_39 : decode cX8_couldBeGiven 39 = .ok (.iload_n 2, 1) := by decide +kernel
theorem dX8_couldBeGiven_40 : decode cX8_couldBeGiven 40 = .ok (.ireturn, 1) := by decide +kernel
theorem dX8_ofOrder_0 : decode cX8_ofOrder 0 = .ok (.aload_n 0, 1) := by decide +kernel
theorem dX8_ofOrder_1 : decode cX8_ofOrder 1 = .ok (.iload_n 1, 1) := by decide +kernel
theorem dX8_ofOrder_2 : decode cX8_ofOrder 2 = .ok (.invokevirtual 116, 3) := by decide +kernel
theorem dX8_ofOrder_5 : decode cX8_ofOrder 5 = .ok (.ifCond .ne 5, 3) := by decide +kernel
theorem dX8_ofOrder_8 : decode cX8_ofOrder 8 = .ok (.iconst (-1), 1) := by decide +kernel
theorem dX8_ofOrder_9 : decode cX8_ofOrder 9 = .ok (.ireturn, 1) := by decide +kernel
theorem dX8_ofOrder_10 : decode cX8_ofOrder 10 = .ok (.iload_n 2, 1) := by decide +kernel
theorem dX8_ofOrder_11 : decode cX8_ofOrder 11 = .ok (.iconst 0, 1) := by decide +kernel
theorem dX8_ofOrder_12 : decode cX8_ofOrder 12 = .ok (.iconst 5, 1) := by decide +kernel
theorem dX8_ofOrder_13 : decode cX8_ofOrder 13 = .ok (.invokestatic 39, 3) := by decide +kernel
theorem dX8_ofOrder_16 : decode cX8_ofOrder 16 = .ok (.ifCond .eq 16, 3) := by decide +kernel
theorem dX8_ofOrder_19 : decode cX8_ofOrder 19 = .ok (.aload_n 0, 1) := by decide +kernel
theorem dX8_ofOrder_20 : decode cX8_ofOrder 20 = .ok (.getfield 7, 3) := by decide +kernel
theorem dX8_ofOrder_23 : decode cX8_ofOrder 23 = .ok (.iload_n 1, 1) := by decide +kernel
theorem dX8_ofOrder_24 : decode cX8_ofOrder 24 = .ok (.iload_n 2, 1) := by decide +kernel
theorem dX8_ofOrder_25 : decode cX8_ofOrder 25 = .ok (.invokestatic 66, 3) := by decide +kernel
theorem dX8_ofOrder_28 : decode cX8_ofOrder 28 = .ok (.iaload, 1) := by decide +kernel
theorem dX8_ofOrder_29 : decode cX8_ofOrder 29 = .ok (.goto 19, 3) := by decide +kernel
theorem dX8_ofOrder_32 : decode cX8_ofOrder 32 = .ok (.iload_n 2, 1) := by decide +kernel
theorem dX8_ofOrder_33 : decode cX8_ofOrder 33 = .ok (.bipush 6, 2) := by decide +kernel
theorem dX8_ofOrder_35 : decode cX8_ofOrder 35 = .ok (.if_icmp .ne 11, 3) := by decide +kernel
theorem dX8_ofOrder_38 : decode cX8_ofOrder 38 = .ok (.aload_n 0, 1) := by decide +kernel
theorem dX8_ofOrder_39 : decode cX8_ofOrder 39 = .ok (.iload_n 1, 1) := by decide +kernel
theorem dX8_ofOrder_40 : decode cX8_ofOrder 40 = .ok (.invokevirtual 172, 3) := by decide +kernel
theorem dX8_ofOrder_43 : decode cX8_ofOrder 43 = .ok (.goto 5, 3) := by decide +kernel
theorem dX8_ofOrder_46 : decode cX8_ofOrder 46 = .ok (.bipush (-2), 2) := by decide +kernel
theorem dX8_ofOrder_48 : decode cX8_ofOrder 48 = .ok (.ireturn, 1) := by decide +kernel
theorem dX8_floatBits_0 : decode cX8_floatBits 0 = .ok (.fload_n 0, 1) := by decide +kernel
theorem dX8_floatBits_1 : decode cX8_floatBits 1 = .ok (.fconst 0, 1) := by decide +kernel
theorem dX8_floatBits_2 : decode cX8_floatBits 2 = .ok (.fcmp .l, 1) := by decide +kernel
theorem dX8_floatBits_3 : decode cX8_floatBits 3 = .ok (.ifCond .ne 5, 3) := by decide +kernel
theorem dX8_floatBits_6 : decode cX8_floatBits 6 = .ok (.iconst 0, 1) := by decide +kernel
theorem dX8_floatBits_7 : decode cX8_floatBits 7 = .ok (.ireturn, 1) := by decide +kernel
theorem dX8_floatBits_8 : decode cX8_floatBits 8 = .ok (.bipush 127, 2) := by decide +kernel
theorem dX8_floatBits_10 : decode cX8_floatBits 10 = .ok (.istore_n 1, 1) := by decide +kernel
theorem dX8_floatBits_11 : decode cX8_floatBits 11 = .ok (.fload_n 0, 1) := by decide +kernel
theorem dX8_floatBits_12 : decode cX8_floatBits 12 = .ok (.fstore_n 2, 1) := by decide +kernel
theorem dX8_floatBits_13 : decode cX8_floatBits 13 = .ok (.fload_n 2, 1) := by decide +kernel
theorem dX8_floatBits_14 : decode cX8_floatBits 14 = .ok (.fconst 1, 1) := by decide +kernel
theorem dX8_floatBits_15 : decode cX8_floatBits 15 = .ok (.fcmp .g, 1) := by decide +kernel
theorem dX8_floatBits_16 : decode cX8_floatBits 16 = .ok (.ifCond .ge 13, 3) := by decide +kernel
theorem dX8_floatBits_19 : decode cX8_floatBits 19 = .ok (.fload_n 2, 1) := by decide +kernel
theorem dX8_floatBits_20 : decode cX8_floatBits 20 = .ok (.fconst 2, 1) := by decide +kernel
theorem dX8_floatBits_21 : decode cX8_floatBits 21 = .ok (.fmul, 1) := by decide +kernel
theorem dX8_floatBits_22 : decode cX8_floatBits 22 = .ok (.fstore_n 2, 1) := by decide +kernel
theorem dX8_floatBits_23 : decode cX8_floatBits 23 = .ok (.iinc 1 (-1), 3) := by decide +kernel
theorem dX8_floatBits_26 : decode cX8_floatBits 26 = .ok (.goto (-13), 3) := by decide +kernel
theorem dX8_floatBits_29 : decode cX8_floatBits 29 = .ok (.fload_n 2, 1) := by decide +kernel
theorem dX8_floatBits_30 : decode cX8_floatBits 30 = .ok (.fconst 2, 1) := by decide +kernel
theorem dX8_floatBits_31 : decode cX8_floatBits 31 = .ok (.fcmp .l, 1) := by decide +kernel
theorem dX8_floatBits_32 : decode cX8_floatBits 32 = .ok (.ifCond .lt 14, 3) := by decide +kernel
theorem dX8_floatBits_35 : decode cX8_floatBits 35 = .ok (.fload_n 2, 1) := by decide +kernel
theorem dX8_floatBits_36 : decode cX8_floatBits 36 = .ok (.ldc 175, 2) := by decide +kernel
theorem dX8_floatBits_38 : decode cX8_floatBits 38 = .ok (.fmul, 1) := by decide +kernel
theorem dX8_floatBits_39 : decode cX8_floatBits 39 = .ok (.fstore_n 2, 1) := by decide +kernel
theorem dX8_floatBits_40 : decode cX8_floatBits 40 = .ok (.iinc 1 1, 3) := by decide +kernel
theorem dX8_floatBits_43 : decode cX8_floatBits 43 = .ok (.goto (-14), 3) := by decide +kernel
theorem dX8_floatBits_46 : decode cX8_floatBits 46 = .ok (.iload_n 1, 1) := by decide +kernel
theorem dX8_floatBits_47 : decode cX8_floatBits 47 = .ok (.ldc 176, 2) := by decide +kernel
theorem dX8_floatBits_49 : decode cX8_floatBits 49 = .ok (.imul, 1) := by decide +kernel
theorem dX8_floatBits_50 : decode cX8_floatBits 50 = .ok (.fload_n 2, 1) := by decide +kernel
theorem dX8_floatBits_51 : decode cX8_floatBits 51 = .ok (.fconst 1, 1) := by decide +kernel
theorem dX8_floatBits_52 : decode cX8_floatBits 52 = .ok (.fsub, 1) := by decide +kernel
theorem dX8_floatBits_53 : decode cX8_floatBits 53 = .ok (.ldc 177, 2) := by decide +kernel
theorem dX8_floatBits_55 : decode cX8_floatBits 55 = .ok (.fmul, 1) := by decide +kernel
theorem dX8_floatBits_56 : decode cX8_floatBits 56 = .ok (.f2i, 1) := by decide +kernel
theorem dX8_floatBits_57 : decode cX8_floatBits 57 = .ok (.iadd, 1) := by decide +kernel
theorem dX8_floatBits_58 : decode cX8_floatBits 58 = .ok (.ireturn, 1) := by decide +kernel
theorem dX8_ofLorry_0 : decode cX8_ofLorry 0 = .ok (.iload_n 1, 1) := by decide +kernel
theorem dX8_ofLorry_1 : decode cX8_ofLorry 1 = .ok (.invokestatic 122, 3) := by decide +kernel
theorem dX8_ofLorry_4 : decode cX8_ofLorry 4 = .ok (.ifCond .ne 5, 3) := by decide +kernel
theorem dX8_ofLorry_7 : decode cX8_ofLorry 7 = .ok (.iconst (-1), 1) := by decide +kernel
theorem dX8_ofLorry_8 : decode cX8_ofLorry 8 = .ok (.ireturn, 1) := by decide +kernel
theorem dX8_ofLorry_9 : decode cX8_ofLorry 9 = .ok (.iload_n 2, 1) := by decide +kernel
theorem dX8_ofLorry_10 : decode cX8_ofLorry 10 = .ok (.tableswitch 90 0 7 #[46, 52, 52, 71, 77, 77, 77, 77], 46) := by decide +kernel
theorem dX8_ofLorry_56 : decode cX8_ofLorry 56 = .ok (.aload_n 0, 1) := by decide +kernel
theorem dX8_ofLorry_57 : decode cX8_ofLorry 57 = .ok (.iload_n 1, 1) := by decide +kernel
theorem dX8_ofLorry_58 : decode cX8_ofLorry 58 = .ok (.invokevirtual 90, 3) := by decide +kernel
theorem dX8_ofLorry_61 : decode cX8_ofLorry 61 = .ok (.ireturn, 1) := by decide +kernel
theorem dX8_ofLorry_62 : decode cX8_ofLorry 62 = .ok (.aload_n 0, 1) := by decide +kernel
theorem dX8_ofLorry_63 : decode cX8_ofLorry 63 = .ok (.iload_n 1, 1) := by decide +kernel
theorem dX8_ofLorry_64 : decode cX8_ofLorry 64 = .ok (.iload_n 2, 1) := by decide +kernel
theorem dX8_ofLorry_65 : decode cX8_ofLorry 65 = .ok (.iconst 2, 1) := by decide +kernel
theorem dX8_ofLorry_66 : decode cX8_ofLorry 66 = .ok (.if_icmp .ne 7, 3) := by decide +kernel
theorem dX8_ofLorry_69 : decode cX8_ofLorry 69 = .ok (.iconst 1, 1) := by decide +kernel
theorem dX8_ofLorry_70 : decode cX8_ofLorry 70 = .ok (.goto 4, 3) := by decide +kernel
theorem dX8_ofLorry_73 : decode cX8_ofLorry 73 = .ok (.iconst 0, 1) := by decide +kernel
theorem dX8_ofLorry_74 : decode cX8_ofLorry 74 = .ok (.invokevirtual 93, 3) := by decide +kernel
theorem dX8_ofLorry_77 : decode cX8_ofLorry 77 = .ok (.invokestatic 178, 3) := by decide +kernel
theorem dX8_ofLorry_80 : decode cX8_ofLorry 80 = .ok (.ireturn, 1) := by decide +kernel
theorem dX8_ofLorry_81 : decode cX8_ofLorry 81 = .ok (.aload_n 0, 1) := by decide +kernel
theorem dX8_ofLorry_82 : decode cX8_ofLorry 82 = .ok (.iload_n 1, 1) := by decide +kernel
theorem dX8_ofLorry_83 : decode cX8_ofLorry 83 = .ok (.invokevirtual 83, 3) := by decide +kernel
theorem dX8_ofLorry_86 : decode cX8_ofLorry 86 = .ok (.ireturn, 1) := by decide +kernel
theorem dX8_ofLorry_87 : decode cX8_ofLorry 87 = .ok (.aload_n 0, 1) := by decide +kernel
theorem dX8_ofLorry_88 : decode cX8_ofLorry 88 = .ok (.getfield 7, 3) := by decide +kernel
theorem dX8_ofLorry_91 : decode cX8_ofLorry 91 = .ok (.iload_n 1, 1) := by decide +kernel
theorem dX8_ofLorry_92 : decode cX8_ofLorry 92 = .ok (.iload_n 2, 1) := by decide +kernel
theorem dX8_ofLorry_93 : decode cX8_ofLorry 93 = .ok (.iconst 4, 1) := by decide +kernel
theorem dX8_ofLorry_94 : decode cX8_ofLorry 94 = .ok (.isub, 1) := by decide +kernel
theorem dX8_ofLorry_95 : decode cX8_ofLorry 95 = .ok (.invokestatic 35, 3) := by decide +kernel
theorem dX8_ofLorry_98 : decode cX8_ofLorry 98 = .ok (.iaload, 1) := by decide +kernel
theorem dX8_ofLorry_99 : decode cX8_ofLorry 99 = .ok (.ireturn, 1) := by decide +kernel
theorem dX8_ofLorry_100 : decode cX8_ofLorry 100 = .ok (.bipush (-2), 2) := by decide +kernel
theorem dX8_ofLorry_102 : decode cX8_ofLorry 102 = .ok (.ireturn, 1) := by decide +kernel
theorem dX8_setOf_0 : decode cX8_setOf 0 = .ok (.iconst 0, 1) := by decide +kernel
theorem dX8_setOf_1 : decode cX8_setOf 1 = .ok (.istore_n 2, 1) := by decide +kernel
theorem dX8_setOf_2 : decode cX8_setOf 2 = .ok (.iconst 0, 1) := by decide +kernel
theorem dX8_setOf_3 : decode cX8_setOf 3 = .ok (.istore_n 3, 1) := by decide +kernel
theorem dX8_setOf_4 : decode cX8_setOf 4 = .ok (.iload_n 3, 1) := by decide +kernel
theorem dX8_setOf_5 : decode cX8_setOf 5 = .ok (.aload_n 0, 1) := by decide +kernel
theorem dX8_setOf_6 : decode cX8_setOf 6 = .ok (.getfield 7, 3) := by decide +kernel
theorem dX8_setOf_9 : decode cX8_setOf 9 = .ok (.iconst 5, 1) := by decide +kernel
theorem dX8_setOf_10 : decode cX8_setOf 10 = .ok (.iaload, 1) := by decide +kernel
theorem dX8_setOf_11 : decode cX8_setOf 11 = .ok (.if_icmp .ge 68, 3) := by decide +kernel
theorem dX8_setOf_14 : decode cX8_setOf 14 = .ok (.iload_n 1, 1) := by decide +kernel
theorem dX8_setOf_15 : decode cX8_setOf 15 = .ok (.ifCond .eq 35, 3) := by decide +kernel
theorem dX8_setOf_18 : decode cX8_setOf 18 = .ok (.aload_n 0, 1) := by decide +kernel
theorem dX8_setOf_19 : decode cX8_setOf 19 = .ok (.getfield 7, 3) := by decide +kernel
theorem dX8_setOf_22 : decode cX8_setOf 22 = .ok (.iload_n 3, 1) := by decide +kernel
theorem dX8_setOf_23 : decode cX8_setOf 23 = .ok (.bipush 6, 2) := by decide +kernel
theorem dX8_setOf_25 : decode cX8_setOf 25 = .ok (.invokestatic 47, 3) := by decide +kernel
theorem dX8_setOf_28 : decode cX8_setOf 28 = .ok (.iaload, 1) := by decide +kernel
theorem dX8_setOf_29 : decode cX8_setOf 29 = .ok (.iconst 1, 1) := by decide +kernel
theorem dX8_setOf_30 : decode cX8_setOf 30 = .ok (.if_icmp .ne 16, 3) := by decide +kernel
theorem dX8_setOf_33 : decode cX8_setOf 33 = .ok (.aload_n 0, 1) := by decide +kernel
theorem dX8_setOf_34 : decode cX8_setOf 34 = .ok (.iload_n 3, 1) := by decide +kernel
theorem dX8_setOf_35 : decode cX8_setOf 35 = .ok (.iconst 4, 1) := by decide +kernel
theorem dX8_setOf_36 : decode cX8_setOf 36 = .ok (.invokevirtual 50, 3) := by decide +kernel
theorem dX8_setOf_39 : decode cX8_setOf 39 = .ok (.ifCond .ne 7, 3) := by decide +kernel
theorem dX8_setOf_42 : decode cX8_setOf 42 = .ok (.iconst 1, 1) := by decide +kernel
theorem dX8_setOf_43 : decode cX8_setOf 43 = .ok (.goto 13, 3) := by decide +kernel
theorem dX8_setOf_46 : decode cX8_setOf 46 = .ok (.iconst 0, 1) := by decide +kernel
theorem dX8_setOf_47 : decode cX8_setOf 47 = .ok (.goto 9, 3) := by decide +kernel
theorem dX8_setOf_50 : decode cX8_setOf 50 = .ok (.aload_n 0, 1) := by decide +kernel
theorem dX8_setOf_51 : decode cX8_setOf 51 = .ok (.iload_n 3, 1) := by decide +kernel
theorem dX8_setOf_52 : decode cX8_setOf 52 = .ok (.iconst 1, 1) := by decide +kernel
theorem dX8_setOf_53 : decode cX8_setOf 53 = .ok (.invokevirtual 50, 3) := by decide +kernel
theorem dX8_setOf_56 : decode cX8_setOf 56 = .ok (.istore 4, 2) := by decide +kernel
theorem dX8_setOf_58 : decode cX8_setOf 58 = .ok (.iload_n 2, 1) := by decide +kernel
theorem dX8_setOf_59 : decode cX8_setOf 59 = .ok (.iload 4, 2) := by decide +kernel
theorem dX8_setOf_61 : decode cX8_setOf 61 = .ok (.ifCond .eq 9, 3) := by decide +kernel
theorem dX8_setOf_64 : decode cX8_setOf 64 = .ok (.iconst 1, 1) := by decide +kernel
theorem dX8_setOf_65 : decode cX8_setOf 65 = .ok (.iload_n 3, 1) := by decide +kernel
theorem dX8_setOf_66 : decode cX8_setOf 66 = .ok (.ishl, 1) := by decide +kernel
theorem dX8_setOf_67 : decode cX8_setOf 67 = .ok (.goto 4, 3) := by decide +kernel
theorem dX8_setOf_70 : decode cX8_setOf 70 = .ok (.iconst 0, 1) := by decide +kernel
theorem dX8_setOf_71 : decode cX8_setOf 71 = .ok (.ior, 1) := by decide +kernel
theorem dX8_setOf_72 : decode cX8_setOf 72 = .ok (.istore_n 2, 1) := by decide +kernel
theorem dX8_setOf_73 : decode cX8_setOf 73 = .ok (.iinc 3 1, 3) := by decide +kernel
theorem dX8_setOf_76 : decode cX8_setOf 76 = .ok (.goto (-72), 3) := by decide +kernel
theorem dX8_setOf_79 : decode cX8_setOf 79 = .ok (.iload_n 2, 1) := by decide +kernel
theorem dX8_setOf_80 : decode cX8_setOf 80 = .ok (.ireturn, 1) := by decide +kernel
theorem dX8_notCut_0 : decode cX8_notCut 0 = .ok (.iconst 0, 1) := by decide +kernel
theorem dX8_notCut_1 : decode cX8_notCut 1 = .ok (.istore_n 2, 1) := by decide +kernel
theorem dX8_notCut_2 : decode cX8_notCut 2 = .ok (.iconst 0, 1) := by decide +kernel
theorem dX8_notCut_3 : decode cX8_notCut 3 = .ok (.istore_n 3, 1) := by decide +kernel
theorem dX8_notCut_4 : decode cX8_notCut 4 = .ok (.iload_n 3, 1) := by decide +kernel
theorem dX8_notCut_5 : decode cX8_notCut 5 = .ok (.aload_n 0, 1) := by decide +kernel
theorem dX8_notCut_6 : decode cX8_notCut 6 = .ok (.getfield 7, 3) := by decide +kernel
theorem dX8_notCut_9 : decode cX8_notCut 9 = .ok (.iconst 5, 1) := by decide +kernel
theorem dX8_notCut_10 : decode cX8_notCut 10 = .ok (.iaload, 1) := by decide +kernel
theorem dX8_notCut_11 : decode cX8_notCut 11 = .ok (.if_icmp .ge 38, 3) := by decide +kernel
theorem dX8_notCut_14 : decode cX8_notCut 14 = .ok (.iload_n 2, 1) := by decide +kernel
theorem dX8_notCut_15 : decode cX8_notCut 15 = .ok (.aload_n 0, 1) := by decide +kernel
theorem dX8_notCut_16 : decode cX8_notCut 16 = .ok (.iload_n 3, 1) := by decide +kernel
theorem dX8_notCut_17 : decode cX8_notCut 17 = .ok (.iconst 4, 1) := by decide +kernel
theorem dX8_notCut_18 : decode cX8_notCut 18 = .ok (.invokevirtual 50, 3) := by decide +kernel
theorem dX8_notCut_21 : decode cX8_notCut 21 = .ok (.ifCond .eq 7, 3) := by decide +kernel
theorem dX8_notCut_24 : decode cX8_notCut 24 = .ok (.iconst 0, 1) := by decide +kernel
theorem dX8_notCut_25 : decode cX8_notCut 25 = .ok (.goto 16, 3) := by decide +kernel
theorem dX8_notCut_28 : decode cX8_notCut 28 = .ok (.iload_n 1, 1) := by decide +kernel
theorem dX8_notCut_29 : decode cX8_notCut 29 = .ok (.ifCond .eq 11, 3) := by decide +kernel
theorem dX8_notCut_32 : decode cX8_notCut 32 = .ok (.aload_n 0, 1) := by decide +kernel
theorem dX8_notCut_33 : decode cX8_notCut 33 = .ok (.iload_n 3, 1) := by decide +kernel
theorem dX8_notCut_34 : decode cX8_notCut 34 = .ok (.invokevirtual 58, 3) := by decide +kernel
theorem dX8_notCut_37 : decode cX8_notCut 37 = .ok (.goto 4, 3) := by decide +kernel
theorem dX8_notCut_40 : decode cX8_notCut 40 = .ok (.iconst 1, 1) := by decide +kernel
theorem dX8_notCut_41 : decode cX8_notCut 41 = .ok (.iadd, 1) := by decide +kernel
theorem dX8_notCut_42 : decode cX8_notCut 42 = .ok (.istore_n 2, 1) := by decide +kernel
theorem dX8_notCut_43 : decode cX8_notCut 43 = .ok (.iinc 3 1, 3) := by decide +kernel
theorem dX8_notCut_46 : decode cX8_notCut 46 = .ok (.goto (-42), 3) := by decide +kernel
theorem dX8_notCut_49 : decode cX8_notCut 49 = .ok (.iload_n 2, 1) := by decide +kernel
theorem dX8_notCut_50 : decode cX8_notCut 50 = .ok (.ireturn, 1) := by decide +kernel
theorem dX8_count_0 : decode cX8_count 0 = .ok (.iload_n 1, 1) := by decide +kernel
theorem dX8_count_1 : decode cX8_count 1 = .ok (.tableswitch 175 0 16 #[83, 83, 83, 83, 92, 92, 107, 115, 121, 121, 121, 134, 141, 148, 158, 165, 170], 83) := by decide +kernel
theorem dX8_count_84 : decode cX8_count 84 = .ok (.aload_n 0, 1) := by decide +kernel
theorem dX8_count_85 : decode cX8_count 85 = .ok (.getfield 7, 3) := by decide +kernel
theorem dX8_count_88 : decode cX8_count 88 = .ok (.iconst 4, 1) := by decide +kernel
theorem dX8_count_89 : decode cX8_count 89 = .ok (.iload_n 1, 1) := by decide +kernel
theorem dX8_count_90 : decode cX8_count 90 = .ok (.iadd, 1) := by decide +kernel
theorem dX8_count_91 : decode cX8_count 91 = .ok (.iaload, 1) := by decide +kernel
theorem dX8_count_92 : decode cX8_count 92 = .ok (.ireturn, 1) := by decide +kernel
theorem dX8_count_93 : decode cX8_count 93 = .ok (.aload_n 0, 1) := by decide +kernel
theorem dX8_count_94 : decode cX8_count 94 = .ok (.iload_n 1, 1) := by decide +kernel
theorem dX8_count_95 : decode cX8_count 95 = .ok (.iconst 5, 1) := by decide +kernel
theorem dX8_count_96 : decode cX8_count 96 = .ok (.if_icmp .ne 7, 3) := by decide +kernel
theorem dX8_count_99 : decode cX8_count 99 = .ok (.iconst 1, 1) := by decide +kernel
theorem dX8_count_100 : decode cX8_count 100 = .ok (.goto 4, 3) := by decide +kernel
theorem dX8_count_103 : decode cX8_count 103 = .ok (.iconst 0, 1) := by decide +kernel
theorem dX8_count_104 : decode cX8_count 104 = .ok (.invokevirtual 182, 3) := by decide +kernel
theorem dX8_count_107 : decode cX8_count 107 = .ok (.ireturn, 1) := by decide +kernel
theorem dX8_count_108 : decode cX8_count 108 = .ok (.aload_n 0, 1) := by decide +kernel
theorem dX8_count_109 : decode cX8_count 109 = .ok (.getfield 7, 3) := by decide +kernel
theorem dX8_count_112 : decode cX8_count 112 = .ok (.bipush 8, 2) := by decide +kernel
theorem dX8_count_114 : decode cX8_count 114 = .ok (.iaload, 1) := by decide +kernel
theorem dX8_count_115 : decode cX8_count 115 = .ok (.ireturn, 1) := by decide +kernel
theorem dX8_count_116 : decode cX8_count 116 = .ok (.aload_n 0, 1) := by decide +kernel
theorem dX8_count_117 : decode cX8_count 117 = .ok (.iconst 1, 1) := by decide +kernel
theorem dX8_count_118 : decode cX8_count 118 = .ok (.invokevirtual 186, 3) := by decide +kernel
theorem dX8_count_121 : decode cX8_count 121 = .ok (.ireturn, 1) := by decide +kernel
theorem dX8_count_122 : decode cX8_count 122 = .ok (.aload_n 0, 1) := by decide +kernel
theorem dX8_count_123 : decode cX8_count 123 = .ok (.getfield 7, 3) := by decide +kernel
theorem dX8_count_126 : decode cX8_count 126 = .ok (.bipush 9, 2) := by decide +kernel
theorem dX8_count_128 : decode cX8_count 128 = .ok (.iload_n 1, 1) := by decide +kernel
theorem dX8_count_129 : decode cX8_count 129 = .ok (.iadd, 1) := by decide +kernel
theorem dX8_count_130 : decode cX8_count 130 = .ok (.bipush 8, 2) := by decide +kernel
theorem dX8_count_132 : decode cX8_count 132 = .ok (.isub, 1) := by decide +kernel
theorem dX8_count_133 : decode cX8_count 133 = .ok (.iaload, 1) := by decide +kernel
theorem dX8_count_134 : decode cX8_count 134 = .ok (.ireturn, 1) := by decide +kernel
theorem dX8_count_135 : decode cX8_count 135 = .ok (.aload_n 0, 1) := by decide +kernel
theorem dX8_count_136 : decode cX8_count 136 = .ok (.getfield 7, 3) := by decide +kernel
theorem dX8_count_139 : decode cX8_count 139 = .ok (.iconst 1, 1) := by decide +kernel
theorem dX8_count_140 : decode cX8_count 140 = .ok (.iaload, 1) := by decide +kernel
theorem dX8_count_141 : decode cX8_count 141 = .ok (.ireturn, 1) := by decide +kernel
theorem dX8_count_142 : decode cX8_count 142 = .ok (.aload_n 0, 1) := by decide +kernel
theorem dX8_count_143 : decode cX8_count 143 = .ok (.getfield 7, 3) := by decide +kernel
theorem dX8_count_146 : decode cX8_count 146 = .ok (.iconst 0, 1) := by decide +kernel
theorem dX8_count_147 : decode cX8_count 147 = .ok (.iaload, 1) := by decide +kernel
theorem dX8_count_148 : decode cX8_count 148 = .ok (.ireturn, 1) := by decide +kernel
theorem dX8_count_149 : decode cX8_count 149 = .ok (.aload_n 0, 1) := by decide +kernel
theorem dX8_count_150 : decode cX8_count 150 = .ok (.getfield 7, 3) := by decide +kernel
theorem dX8_count_153 : decode cX8_count 153 = .ok (.iconst 2, 1) := by decide +kernel
theorem dX8_count_154 : decode cX8_count 154 = .ok (.iaload, 1) := by decide +kernel
theorem dX8_count_155 : decode cX8_count 155 = .ok (.bipush 100, 2) := by decide +kernel
theorem dX8_count_157 : decode cX8_count 157 = .ok (.iadd, 1) := by decide +kernel
theorem dX8_count_158 : decode cX8_count 158 = .ok (.ireturn, 1) := by decide +kernel
theorem dX8_count_159 : decode cX8_count 159 = .ok (.aload_n 0, 1) := by decide +kernel
theorem dX8_count_160 : decode cX8_count 160 = .ok (.getfield 7, 3) := by decide +kernel
theorem dX8_count_163 : decode cX8_count 163 = .ok (.iconst 3, 1) := by decide +kernel
theorem dX8_count_164 : decode cX8_count 164 = .ok (.iaload, 1) := by decide +kernel
theorem dX8_count_165 : decode cX8_count 165 = .ok (.ireturn, 1) := by decide +kernel
theorem dX8_count_166 : decode cX8_count 166 = .ok (.aload_n 0, 1) := by decide +kernel
theorem dX8_count_167 : decode cX8_count 167 = .ok (.getfield 189, 3) := by decide +kernel
theorem dX8_count_170 : decode cX8_count 170 = .ok (.ireturn, 1) := by decide +kernel
theorem dX8_count_171 : decode cX8_count 171 = .ok (.aload_n 0, 1) := by decide +kernel
theorem dX8_count_172 : decode cX8_count 172 = .ok (.getfield 43, 3) := by decide +kernel
theorem dX8_count_175 : decode cX8_count 175 = .ok (.ireturn, 1) := by decide +kernel
theorem dX8_count_176 : decode cX8_count 176 = .ok (.bipush (-2), 2) := by decide +kernel
theorem dX8_count_178 : decode cX8_count 178 = .ok (.ireturn, 1) := by decide +kernel
theorem dX8_bitsOf_0 : decode cX8_bitsOf 0 = .ok (.dload_n 0, 1) := by decide +kernel
theorem dX8_bitsOf_1 : decode cX8_bitsOf 1 = .ok (.dconst 0, 1) := by decide +kernel
theorem dX8_bitsOf_2 : decode cX8_bitsOf 2 = .ok (.dcmp .l, 1) := by decide +kernel
theorem dX8_bitsOf_3 : decode cX8_bitsOf 3 = .ok (.ifCond .ne 5, 3) := by decide +kernel
theorem dX8_bitsOf_6 : decode cX8_bitsOf 6 = .ok (.lconst 0, 1) := by decide +kernel
theorem dX8_bitsOf_7 : decode cX8_bitsOf 7 = .ok (.lreturn, 1) := by decide +kernel
theorem dX8_bitsOf_8 : decode cX8_bitsOf 8 = .ok (.ldc2_w 192, 3) := by decide +kernel
theorem dX8_bitsOf_11 : decode cX8_bitsOf 11 = .ok (.lstore_n 2, 1) := by decide +kernel
theorem dX8_bitsOf_12 : decode cX8_bitsOf 12 = .ok (.dload_n 0, 1) := by decide +kernel
theorem dX8_bitsOf_13 : decode cX8_bitsOf 13 = .ok (.dstore 4, 2) := by decide +kernel
theorem dX8_bitsOf_15 : decode cX8_bitsOf 15 = .ok (.dload 4, 2) := by decide +kernel
theorem dX8_bitsOf_17 : decode cX8_bitsOf 17 = .ok (.dconst 1, 1) := by decide +kernel
theorem dX8_bitsOf_18 : decode cX8_bitsOf 18 = .ok (.dcmp .g, 1) := by decide +kernel
theorem dX8_bitsOf_19 : decode cX8_bitsOf 19 = .ok (.ifCond .ge 18, 3) := by decide +kernel
theorem dX8_bitsOf_22 : decode cX8_bitsOf 22 = .ok (.dload 4, 2) := by decide +kernel
theorem dX8_bitsOf_24 : decode cX8_bitsOf 24 = .ok (.ldc2_w 194, 3) := by decide +kernel
theorem dX8_bitsOf_27 : decode cX8_bitsOf 27 = .ok (.dmul, 1) := by decide +kernel
theorem dX8_bitsOf_28 : decode cX8_bitsOf 28 = .ok (.dstore 4, 2) := by decide +kernel
theorem dX8_bitsOf_30 : decode cX8_bitsOf 30 = .ok (.lload_n 2, 1) := by decide +kernel
theorem dX8_bitsOf_31 : decode cX8_bitsOf 31 = .ok (.lconst 1, 1) := by decide +kernel
theorem dX8_bitsOf_32 : decode cX8_bitsOf 32 = .ok (.lsub, 1) := by decide +kernel
theorem dX8_bitsOf_33 : decode cX8_bitsOf 33 = .ok (.lstore_n 2, 1) := by decide +kernel
theorem dX8_bitsOf_34 : decode cX8_bitsOf 34 = .ok (.goto (-19), 3) := by decide +kernel
theorem dX8_bitsOf_37 : decode cX8_bitsOf 37 = .ok (.dload 4, 2) := by decide +kernel
theorem dX8_bitsOf_39 : decode cX8_bitsOf 39 = .ok (.ldc2_w 194, 3) := by decide +kernel
theorem dX8_bitsOf_42 : decode cX8_bitsOf 42 = .ok (.dcmp .l, 1) := by decide +kernel
theorem dX8_bitsOf_43 : decode cX8_bitsOf 43 = .ok (.ifCond .lt 18, 3) := by decide +kernel
theorem dX8_bitsOf_46 : decode cX8_bitsOf 46 = .ok (.dload 4, 2) := by decide +kernel
theorem dX8_bitsOf_48 : decode cX8_bitsOf 48 = .ok (.ldc2_w 196, 3) := by decide +kernel
theorem dX8_bitsOf_51 : decode cX8_bitsOf 51 = .ok (.dmul, 1) := by decide +kernel
theorem dX8_bitsOf_52 : decode cX8_bitsOf 52 = .ok (.dstore 4, 2) := by decide +kernel
theorem dX8_bitsOf_54 : decode cX8_bitsOf 54 = .ok (.lload_n 2, 1) := by decide +kernel
theorem dX8_bitsOf_55 : decode cX8_bitsOf 55 = .ok (.lconst 1, 1) := by decide +kernel
theorem dX8_bitsOf_56 : decode cX8_bitsOf 56 = .ok (.ladd, 1) := by decide +kernel
theorem dX8_bitsOf_57 : decode cX8_bitsOf 57 = .ok (.lstore_n 2, 1) := by decide +kernel
theorem dX8_bitsOf_58 : decode cX8_bitsOf 58 = .ok (.goto (-21), 3) := by decide +kernel
theorem dX8_bitsOf_61 : decode cX8_bitsOf 61 = .ok (.lload_n 2, 1) := by decide +kernel
theorem dX8_bitsOf_62 : decode cX8_bitsOf 62 = .ok (.ldc2_w 198, 3) := by decide +kernel
theorem dX8_bitsOf_65 : decode cX8_bitsOf 65 = .ok (.lmul, 1) := by decide +kernel
theorem dX8_bitsOf_66 : decode cX8_bitsOf 66 = .ok (.dload 4, 2) := by decide +kernel
theorem dX8_bitsOf_68 : decode cX8_bitsOf 68 = .ok (.dconst 1, 1) := by decide +kernel
theorem dX8_bitsOf_69 : decode cX8_bitsOf 69 = .ok (.dsub, 1) := by decide +kernel
theorem dX8_bitsOf_70 : decode cX8_bitsOf 70 = .ok (.ldc2_w 200, 3) := by decide +kernel
theorem dX8_bitsOf_73 : decode cX8_bitsOf 73 = .ok (.dmul, 1) := by decide +kernel
theorem dX8_bitsOf_74 : decode cX8_bitsOf 74 = .ok (.d2l, 1) := by decide +kernel
theorem dX8_bitsOf_75 : decode cX8_bitsOf 75 = .ok (.ladd, 1) := by decide +kernel
theorem dX8_bitsOf_76 : decode cX8_bitsOf 76 = .ok (.lreturn, 1) := by decide +kernel
theorem dX8_meanWeight_0 : decode cX8_meanWeight 0 = .ok (.aload_n 0, 1) := by decide +kernel
theorem dX8_meanWeight_1 : decode cX8_meanWeight 1 = .ok (.iconst 0, 1) := by decide +kernel
theorem dX8_meanWeight_2 : decode cX8_meanWeight 2 = .ok (.invokevirtual 186, 3) := by decide +kernel
theorem dX8_meanWeight_5 : decode cX8_meanWeight 5 = .ok (.istore_n 1, 1) := by decide +kernel
theorem dX8_meanWeight_6 : decode cX8_meanWeight 6 = .ok (.iload_n 1, 1) := by decide +kernel
theorem dX8_meanWeight_7 : decode cX8_meanWeight 7 = .ok (.ifCond .ne 7, 3) := by decide +kernel
theorem dX8_meanWeight_10 : decode cX8_meanWeight 10 = .ok (.lconst 0, 1) := by decide +kernel
theorem dX8_meanWeight_11 : decode cX8_meanWeight 11 = .ok (.goto 15, 3) := by decide +kernel
theorem dX8_meanWeight_14 : decode cX8_meanWeight 14 = .ok (.aload_n 0, 1) := by decide +kernel
theorem dX8_meanWeight_15 : decode cX8_meanWeight 15 = .ok (.iconst 1, 1) := by decide +kernel
theorem dX8_meanWeight_16 : decode cX8_meanWeight 16 = .ok (.invokevirtual 186, 3) := by decide +kernel
theorem dX8_meanWeight_19 : decode cX8_meanWeight 19 = .ok (.i2d, 1) := by decide +kernel
theorem dX8_meanWeight_20 : decode cX8_meanWeight 20 = .ok (.iload_n 1, 1) := by decide +kernel
theorem dX8_meanWeight_21 : decode cX8_meanWeight 21 = .ok (.i2d, 1) := by decide +kernel
theorem dX8_meanWeight_22 : decode cX8_meanWeight 22 = .ok (.ddiv, 1) := by decide +kernel
theorem dX8_meanWeight_23 : decode cX8_meanWeight 23 = .ok (.invokestatic 202, 3) := by decide +kernel
theorem dX8_meanWeight_26 : decode cX8_meanWeight 26 = .ok (.lreturn, 1) := by decide +kernel
theorem dX8_why_0 : decode cX8_why 0 = .ok (.iload_n 1, 1) := by decide +kernel
theorem dX8_why_1 : decode cX8_why 1 = .ok (.invokestatic 122, 3) := by decide +kernel
theorem dX8_why_4 : decode cX8_why 4 = .ok (.ifCond .eq 11, 3) := by decide +kernel
theorem dX8_why_7 : decode cX8_why 7 = .ok (.aload_n 0, 1) := by decide +kernel
theorem dX8_why_8 : decode cX8_why 8 = .ok (.iload_n 1, 1) := by decide +kernel
theorem dX8_why_9 : decode cX8_why 9 = .ok (.invokevirtual 125, 3) := by decide +kernel
theorem dX8_why_12 : decode cX8_why 12 = .ok (.goto 4, 3) := by decide +kernel
theorem dX8_why_15 : decode cX8_why 15 = .ok (.iconst (-1), 1) := by decide +kernel
theorem dX8_why_16 : decode cX8_why 16 = .ok (.ireturn, 1) := by decide +kernel
theorem dX8_bestBlock_0 : decode cX8_bestBlock 0 = .ok (.aload_n 0, 1) := by decide +kernel
theorem dX8_bestBlock_1 : decode cX8_bestBlock 1 = .ok (.iload_n 1, 1) := by decide +kernel
theorem dX8_bestBlock_2 : decode cX8_bestBlock 2 = .ok (.invokevirtual 116, 3) := by decide +kernel
theorem dX8_bestBlock_5 : decode cX8_bestBlock 5 = .ok (.ifCond .ne 5, 3) := by decide +kernel
theorem dX8_bestBlock_8 : decode cX8_bestBlock 8 = .ok (.iconst (-1), 1) := by decide +kernel
theorem dX8_bestBlock_9 : decode cX8_bestBlock 9 = .ok (.ireturn, 1) := by decide +kernel
theorem dX8_bestBlock_10 : decode cX8_bestBlock 10 = .ok (.aload_n 0, 1) := by decide +kernel
theorem dX8_bestBlock_11 : decode cX8_bestBlock 11 = .ok (.getfield 7, 3) := by decide +kernel
theorem dX8_bestBlock_14 : decode cX8_bestBlock 14 = .ok (.iload_n 1, 1) := by decide +kernel
theorem dX8_bestBlock_15 : decode cX8_bestBlock 15 = .ok (.iconst 3, 1) := by decide +kernel
theorem dX8_bestBlock_16 : decode cX8_bestBlock 16 = .ok (.invokestatic 66, 3) := by decide +kernel
theorem dX8_bestBlock_19 : decode cX8_bestBlock 19 = .ok (.iaload, 1) := by decide +kernel
theorem dX8_bestBlock_20 : decode cX8_bestBlock 20 = .ok (.ifCond .eq 6, 3) := by decide +kernel
theorem dX8_bestBlock_23 : decode cX8_bestBlock 23 = .ok (.bipush (-5), 2) := by decide +kernel
theorem dX8_bestBlock_25 : decode cX8_bestBlock 25 = .ok (.ireturn, 1) := by decide +kernel
theorem dX8_bestBlock_26 : decode cX8_bestBlock 26 = .ok (.bipush (-6), 2) := by decide +kernel
theorem dX8_bestBlock_28 : decode cX8_bestBlock 28 = .ok (.istore_n 2, 1) := by decide +kernel
theorem dX8_bestBlock_29 : decode cX8_bestBlock 29 = .ok (.aload_n 0, 1) := by decide +kernel
theorem dX8_bestBlock_30 : decode cX8_bestBlock 30 = .ok (.getfield 7, 3) := by decide +kernel
theorem dX8_bestBlock_33 : decode cX8_bestBlock 33 = .ok (.iconst 5, 1) := by decide +kernel
theorem dX8_bestBlock_34 : decode cX8_bestBlock 34 = .ok (.iaload, 1) := by decide +kernel
theorem dX8_bestBlock_35 : decode cX8_bestBlock 35 = .ok (.iconst 1, 1) := by decide +kernel
theorem dX8_bestBlock_36 : decode cX8_bestBlock 36 = .ok (.isub, 1) := by decide +kernel
theorem dX8_bestBlock_37 : decode cX8_bestBlock 37 = .ok (.istore_n 3, 1) := by decide +kernel
theorem dX8_bestBlock_38 : decode cX8_bestBlock 38 = .ok (.iload_n 3, 1) := by decide +kernel
theorem dX8_bestBlock_39 : decode cX8_bestBlock 39 = .ok (.ifCond .lt 45, 3) := by decide +kernel
theorem dX8_bestBlock_42 : decode cX8_bestBlock 42 = .ok (.aload_n 0, 1) := by decide +kernel
theorem dX8_bestBlock_43 : decode cX8_bestBlock 43 = .ok (.iload_n 1, 1) := by decide +kernel
theorem dX8_bestBlock_44 : decode cX8_bestBlock 44 = .ok (.iload_n 3, 1) := by decide +kernel
theorem dX8_bestBlock_45 : decode cX8_bestBlock 45 = .ok (.invokevirtual 119, 3) := by decide +kernel
theorem dX8_bestBlock_48 : decode cX8_bestBlock 48 = .ok (.ifCond .eq 28, 3) := by decide +kernel
theorem dX8_bestBlock_51 : decode cX8_bestBlock 51 = .ok (.iload_n 2, 1) := by decide +kernel
theorem dX8_bestBlock_52 : decode cX8_bestBlock 52 = .ok (.bipush (-6), 2) := by decide +kernel
theorem dX8_bestBlock_54 : decode cX8_bestBlock 54 = .ok (.if_icmp .eq 18, 3) := by decide +kernel
theorem dX8_bestBlock_57 : decode cX8_bestBlock 57 = .ok (.aload_n 0, 1) := by decide +kernel
theorem dX8_bestBlock_58 : decode cX8_bestBlock 58 = .ok (.iload_n 1, 1) := by decide +kernel
theorem dX8_bestBlock_59 : decode cX8_bestBlock 59 = .ok (.iload_n 3, 1) := by decide +kernel
theorem dX8_bestBlock_60 : decode cX8_bestBlock 60 = .ok (.invokevirtual 72, 3) := by decide +kernel
theorem dX8_bestBlock_63 : decode cX8_bestBlock 63 = .ok (.aload_n 0, 1) := by decide +kernel
theorem dX8_bestBlock_64 : decode cX8_bestBlock 64 = .ok (.iload_n 1, 1) := by decide +kernel
theorem dX8_bestBlock_65 : decode cX8_bestBlock 65 = .ok (.iload_n 2, 1) := by decide +kernel
theorem dX8_bestBlock_66 : decode cX8_bestBlock 66 = .ok (.invokevirtual 72, 3) := by decide +kernel
theorem dX8_bestBlock_69 : decode cX8_bestBlock 69 = .ok (.if_icmp .gt 7, 3) := by decide +kernel
theorem dX8_bestBlock_72 : decode cX8_bestBlock 72 = .ok (.iload_n 3, 1) := by decide +kernel
theorem dX8_bestBlock_73 : decode cX8_bestBlock 73 = .ok (.goto 4, 3) := by decide +kernel
theorem dX8_bestBlock_76 : decode cX8_bestBlock 76 = .ok (.iload_n 2, 1) := by decide +kernel
theorem dX8_bestBlock_77 : decode cX8_bestBlock 77 = .ok (.istore_n 2, 1) := by decide +kernel
theorem dX8_bestBlock_78 : decode cX8_bestBlock 78 = .ok (.iinc 3 (-1), 3) := by decide +kernel
theorem dX8_bestBlock_81 : decode cX8_bestBlock 81 = .ok (.goto (-43), 3) := by decide +kernel
theorem dX8_bestBlock_84 : decode cX8_bestBlock 84 = .ok (.iload_n 2, 1) := by decide +kernel
theorem dX8_bestBlock_85 : decode cX8_bestBlock 85 = .ok (.ireturn, 1) := by decide +kernel
theorem dX8_isFitting_0 : decode cX8_isFitting 0 = .ok (.iload_n 3, 1) := by decide +kernel
theorem dX8_isFitting_1 : decode cX8_isFitting 1 = .ok (.ifCond .ne 8, 3) := by decide +kernel
theorem dX8_isFitting_4 : decode cX8_isFitting 4 = .ok (.iload 4, 2) := by decide +kernel
theorem dX8_isFitting_6 : decode cX8_isFitting 6 = .ok (.goto 13, 3) := by decide +kernel
theorem dX8_isFitting_9 : decode cX8_isFitting 9 = .ok (.aload_n 0, 1) := by decide +kernel
theorem dX8_isFitting_10 : decode cX8_isFitting 10 = .ok (.getfield 7, 3) := by decide +kernel
theorem dX8_isFitting_13 : decode cX8_isFitting 13 = .ok (.iload_n 2, 1) := by decide +kernel
theorem dX8_isFitting_14 : decode cX8_isFitting 14 = .ok (.iconst 0, 1) := by decide +kernel
theorem dX8_isFitting_15 : decode cX8_isFitting 15 = .ok (.invokestatic 47, 3) := by decide +kernel
theorem dX8_isFitting_18 : decode cX8_isFitting 18 = .ok (.iaload, 1) := by decide +kernel
theorem dX8_isFitting_19 : decode cX8_isFitting 19 = .ok (.istore 5, 2) := by decide +kernel
theorem dX8_isFitting_21 : decode cX8_isFitting 21 = .ok (.iload_n 3, 1) := by decide +kernel
theorem dX8_isFitting_22 : decode cX8_isFitting 22 = .ok (.iconst 1, 1) := by decide +kernel
theorem dX8_isFitting_23 : decode cX8_isFitting 23 = .ok (.if_icmp .ne 8, 3) := by decide +kernel
theorem dX8_isFitting_26 : decode cX8_isFitting 26 = .ok (.iload 4, 2) := by decide +kernel
theorem dX8_isFitting_28 : decode cX8_isFitting 28 = .ok (.goto 13, 3) := by decide +kernel
theorem dX8_isFitting_31 : decode cX8_isFitting 31 = .ok (.aload_n 0, 1) := by decide +kernel
theorem dX8_isFitting_32 : decode cX8_isFitting 32 = .ok (.getfield 7, 3) := by decide +kernel
theorem dX8_isFitting_35 : decode cX8_isFitting 35 = .ok (.iload_n 2, 1) := by decide +kernel
theorem dX8_isFitting_36 : decode cX8_isFitting 36 = .ok (.iconst 1, 1) := by decide +kernel
theorem dX8_isFitting_37 : decode cX8_isFitting 37 = .ok (.invokestatic 47, 3) := by decide +kernel
theorem dX8_isFitting_40 : decode cX8_isFitting 40 = .ok (.iaload, 1) := by decide +kernel
theorem dX8_isFitting_41 : decode cX8_isFitting 41 = .ok (.istore 6, 2) := by decide +kernel
theorem dX8_isFitting_43 : decode cX8_isFitting 43 = .ok (.iload_n 3, 1) := by decide +kernel
theorem dX8_isFitting_44 : decode cX8_isFitting 44 = .ok (.iconst 2, 1) := by decide +kernel
theorem dX8_isFitting_45 : decode cX8_isFitting 45 = .ok (.if_icmp .ne 8, 3) := by decide +kernel
theorem dX8_isFitting_48 : decode cX8_isFitting 48 = .ok (.iload 4, 2) := by decide +kernel
theorem dX8_isFitting_50 : decode cX8_isFitting 50 = .ok (.goto 13, 3) := by decide +kernel
theorem dX8_isFitting_53 : decode cX8_isFitting 53 = .ok (.aload_n 0, 1) := by decide +kernel
theorem dX8_isFitting_54 : decode cX8_isFitting 54 = .ok (.getfield 7, 3) := by decide +kernel
theorem dX8_isFitting_57 : decode cX8_isFitting 57 = .ok (.iload_n 2, 1) := by decide +kernel
theorem dX8_isFitting_58 : decode cX8_isFitting 58 = .ok (.iconst 2, 1) := by decide +kernel
theorem dX8_isFitting_59 : decode cX8_isFitting 59 = .ok (.invokestatic 47, 3) := by decide +kernel
theorem dX8_isFitting_62 : decode cX8_isFitting 62 = .ok (.iaload, 1) := by decide +kernel
theorem dX8_isFitting_63 : decode cX8_isFitting 63 = .ok (.istore 7, 2) := by decide +kernel
theorem dX8_isFitting_65 : decode cX8_isFitting 65 = .ok (.aload_n 0, 1) := by decide +kernel
theorem dX8_isFitting_66 : decode cX8_isFitting 66 = .ok (.getfield 7, 3) := by decide +kernel
theorem dX8_isFitting_69 : decode cX8_isFitting 69 = .ok (.iload_n 2, 1) := by decide +kernel
theorem dX8_isFitting_70 : decode cX8_isFitting 70 = .ok (.iload_n 3, 1) := by decide +kernel
theorem dX8_isFitting_71 : decode cX8_isFitting 71 = .ok (.invokestatic 47, 3) := by decide +kernel
theorem dX8_isFitting_74 : decode cX8_isFitting 74 = .ok (.iaload, 1) := by decide +kernel
theorem dX8_isFitting_75 : decode cX8_isFitting 75 = .ok (.iload 4, 2) := by decide +kernel
theorem dX8_isFitting_77 : decode cX8_isFitting 77 = .ok (.isub, 1) := by decide +kernel
theorem dX8_isFitting_78 : decode cX8_isFitting 78 = .ok (.aload_n 0, 1) := by decide +kernel
theorem dX8_isFitting_79 : decode cX8_isFitting 79 = .ok (.getfield 7, 3) := by decide +kernel
theorem dX8_isFitting_82 : decode cX8_isFitting 82 = .ok (.iconst 0, 1) := by decide +kernel
theorem dX8_isFitting_83 : decode cX8_isFitting 83 = .ok (.iaload, 1) := by decide +kernel
theorem dX8_isFitting_84 : decode cX8_isFitting 84 = .ok (.isub, 1) := by decide +kernel
theorem dX8_isFitting_85 : decode cX8_isFitting 85 = .ok (.iconst 1, 1) := by decide +kernel
theorem dX8_isFitting_86 : decode cX8_isFitting 86 = .ok (.if_icmp .lt 7, 3) := by decide +kernel
theorem dX8_isFitting_89 : decode cX8_isFitting 89 = .ok (.iconst 1, 1) := by decide +kernel
theorem dX8_isFitting_90 : decode cX8_isFitting 90 = .ok (.goto 4, 3) := by decide +kernel
theorem dX8_isFitting_93 : decode cX8_isFitting 93 = .ok (.iconst 0, 1) := by decide +kernel
theorem dX8_isFitting_94 : decode cX8_isFitting 94 = .ok (.istore 8, 2) := by decide +kernel
theorem dX8_isFitting_96 : decode cX8_isFitting 96 = .ok (.iload 8, 2) := by decide +kernel
theorem dX8_isFitting_98 : decode cX8_isFitting 98 = .ok (.ifCond .eq 37, 3) := by decide +kernel
theorem dX8_isFitting_101 : decode cX8_isFitting 101 = .ok (.aload_n 0, 1) := by decide +kernel
theorem dX8_isFitting_102 : decode cX8_isFitting 102 = .ok (.getfield 7, 3) := by decide +kernel
theorem dX8_isFitting_105 : decode cX8_isFitting 105 = .ok (.iload_n 2, 1) := by decide +kernel
theorem dX8_isFitting_106 : decode cX8_isFitting 106 = .ok (.bipush 6, 2) := by decide +kernel
theorem dX8_isFitting_108 : decode cX8_isFitting 108 = .ok (.invokestatic 47, 3) := by decide +kernel
theorem dX8_isFitting_111 : decode cX8_isFitting 111 = .ok (.iaload, 1) := by decide +kernel
theorem dX8_isFitting_112 : decode cX8_isFitting 112 = .ok (.ifCond .ne 23, 3) := by decide +kernel
theorem dX8_isFitting_115 : decode cX8_isFitting 115 = .ok (.aload_n 0, 1) := by decide +kernel
theorem dX8_isFitting_116 : decode cX8_isFitting 116 = .ok (.iload_n 1, 1) := by decide +kernel
theorem dX8_isFitting_117 : decode cX8_isFitting 117 = .ok (.iload 5, 2) := by decide +kernel
theorem dX8_isFitting_119 : decode cX8_isFitting 119 = .ok (.iload 6, 2) := by decide +kernel
theorem dX8_isFitting_121 : decode cX8_isFitting 121 = .ok (.iload 7, 2) := by decide +kernel
theorem dX8_isFitting_123 : decode cX8_isFitting 123 = .ok (.invokevirtual 69, 3) := by decide +kernel
theorem dX8_isFitting_126 : decode cX8_isFitting 126 = .ok (.bipush (-6), 2) := by decide +kernel
theorem dX8_isFitting_128 : decode cX8_isFitting 128 = .ok (.if_icmp .eq 7, 3) := by decide +kernel
theorem dX8_isFitting_131 : decode cX8_isFitting 131 = .ok (.iconst 1, 1) := by decide +kernel
theorem dX8_isFitting_132 : decode cX8_isFitting 132 = .ok (.goto 4, 3) := by decide +kernel
theorem dX8_isFitting_135 : decode cX8_isFitting 135 = .ok (.iconst 0, 1) := by decide +kernel
theorem dX8_isFitting_136 : decode cX8_isFitting 136 = .ok (.ireturn, 1) := by decide +kernel
theorem dX8_fittingCut_0 : decode cX8_fittingCut 0 = .ok (.aload_n 0, 1) := by decide +kernel
theorem dX8_fittingCut_1 : decode cX8_fittingCut 1 = .ok (.iload_n 1, 1) := by decide +kernel
theorem dX8_fittingCut_2 : decode cX8_fittingCut 2 = .ok (.invokevirtual 116, 3) := by decide +kernel
theorem dX8_fittingCut_5 : decode cX8_fittingCut 5 = .ok (.ifCond .eq 11, 3) := by decide +kernel
theorem dX8_fittingCut_8 : decode cX8_fittingCut 8 = .ok (.aload_n 0, 1) := by decide +kernel
theorem dX8_fittingCut_9 : decode cX8_fittingCut 9 = .ok (.iload_n 2, 1) := by decide +kernel
theorem dX8_fittingCut_10 : decode cX8_fittingCut 10 = .ok (.invokevirtual 103, 3) := by decide +kernel
theorem dX8_fittingCut_13 : decode cX8_fittingCut 13 = .ok (.ifCond .ne 5, 3) := by decide +kernel
theorem dX8_fittingCut_16 : decode cX8_fittingCut 16 = .ok (.iconst (-1), 1) := by decide +kernel
theorem dX8_fittingCut_17 : decode cX8_fittingCut 17 = .ok (.ireturn, 1) := by decide +kernel
theorem dX8_fittingCut_18 : decode cX8_fittingCut 18 = .ok (.iload_n 3, 1) := by decide +kernel
theorem dX8_fittingCut_19 : decode cX8_fittingCut 19 = .ok (.iconst 0, 1) := by decide +kernel
theorem dX8_fittingCut_20 : decode cX8_fittingCut 20 = .ok (.iconst 1, 1) := by decide +kernel
theorem dX8_fittingCut_21 : decode cX8_fittingCut 21 = .ok (.invokestatic 39, 3) := by decide +kernel
theorem dX8_fittingCut_24 : decode cX8_fittingCut 24 = .ok (.ifCond .ne 6, 3) := by decide +kernel
theorem dX8_fittingCut_27 : decode cX8_fittingCut 27 = .ok (.bipush (-2), 2) := by decide +kernel
theorem dX8_fittingCut_29 : decode cX8_fittingCut 29 = .ok (.ireturn, 1) := by decide +kernel
theorem dX8_fittingCut_30 : decode cX8_fittingCut 30 = .ok (.aload_n 0, 1) := by decide +kernel
theorem dX8_fittingCut_31 : decode cX8_fittingCut 31 = .ok (.iload_n 2, 1) := by decide +kernel
theorem dX8_fittingCut_32 : decode cX8_fittingCut 32 = .ok (.invokevirtual 106, 3) := by decide +kernel
theorem dX8_fittingCut_35 : decode cX8_fittingCut 35 = .ok (.ifCond .ne 6, 3) := by decide +kernel
theorem dX8_fittingCut_38 : decode cX8_fittingCut 38 = .ok (.bipush (-5), 2) := by decide +kernel
theorem dX8_fittingCut_40 : decode cX8_fittingCut 40 = .ok (.ireturn, 1) := by decide +kernel
theorem dX8_fittingCut_41 : decode cX8_fittingCut 41 = .ok (.iconst 0, 1) := by decide +kernel
theorem dX8_fittingCut_42 : decode cX8_fittingCut 42 = .ok (.istore 4, 2) := by decide +kernel
theorem dX8_fittingCut_44 : decode cX8_fittingCut 44 = .ok (.iload 4, 2) := by decide +kernel
theorem dX8_fittingCut_46 : decode cX8_fittingCut 46 = .ok (.sipush 900, 3) := by decide +kernel
theorem dX8_fittingCut_49 : decode cX8_fittingCut 49 = .ok (.if_icmp .ge 54, 3) := by decide +kernel
theorem dX8_fittingCut_52 : decode cX8_fittingCut 52 = .ok (.aload_n 0, 1) := by decide +kernel
theorem dX8_fittingCut_53 : decode cX8_fittingCut 53 = .ok (.iload_n 1, 1) := by decide +kernel
theorem dX8_fittingCut_54 : decode cX8_fittingCut 54 = .ok (.iload_n 2, 1) := by decide +kernel
theorem dX8_fittingCut_55 : decode cX8_fittingCut 55 = .ok (.iload 4, 2) := by decide +kernel
theorem dX8_fittingCut_57 : decode cX8_fittingCut 57 = .ok (.sipush 300, 3) := by decide +kernel
theorem dX8_fittingCut_60 : decode cX8_fittingCut 60 = .ok (.idiv, 1) := by decide +kernel
theorem dX8_fittingCut_61 : decode cX8_fittingCut 61 = .ok (.iconst 1, 1) := by decide +kernel
theorem dX8_fittingCut_62 : decode cX8_fittingCut 62 = .ok (.iload 4, 2) := by decide +kernel
theorem dX8_fittingCut_64 : decode cX8_fittingCut 64 = .ok (.sipush 300, 3) := by decide +kernel
theorem dX8_fittingCut_67 : decode cX8_fittingCut 67 = .ok (.irem, 1) := by decide +kernel
theorem dX8_fittingCut_68 : decode cX8_fittingCut 68 = .ok (.iadd, 1) := by decide +kernel
theorem dX8_fittingCut_69 : decode cX8_fittingCut 69 = .ok (.invokevirtual 206, 3) := by decide +kernel
theorem dX8_fittingCut_72 : decode cX8_fittingCut 72 = .ok (.ifCond .eq 25, 3) := by decide +kernel
theorem dX8_fittingCut_75 : decode cX8_fittingCut 75 = .ok (.iload_n 3, 1) := by decide +kernel
theorem dX8_fittingCut_76 : decode cX8_fittingCut 76 = .ok (.ifCond .ne 12, 3) := by decide +kernel
theorem dX8_fittingCut_79 : decode cX8_fittingCut 79 = .ok (.iload 4, 2) := by decide +kernel
theorem dX8_fittingCut_81 : decode cX8_fittingCut 81 = .ok (.sipush 300, 3) := by decide +kernel
theorem dX8_fittingCut_84 : decode cX8_fittingCut 84 = .ok (.idiv, 1) := by decide +kernel
theorem dX8_fittingCut_85 : decode cX8_fittingCut 85 = .ok (.goto 11, 3) := by decide +kernel
theorem dX8_fittingCut_88 : decode cX8_fittingCut 88 = .ok (.iconst 1, 1) := by decide +kernel
theorem dX8_fittingCut_89 : decode cX8_fittingCut 89 = .ok (.iload 4, 2) := by decide +kernel
theorem dX8_fittingCut_91 : decode cX8_fittingCut 91 = .ok (.sipush 300, 3) := by decide +kernel
theorem dX8_fittingCut_94 : decode cX8_fittingCut 94 = .ok (.irem, 1) := by decide +kernel
theorem dX8_fittingCut_95 : decode cX8_fittingCut 95 = .ok (.iadd, 1) := by decide +kernel
theorem dX8_fittingCut_96 : decode cX8_fittingCut 96 = .ok (.ireturn, 1) := by decide +kernel
theorem dX8_fittingCut_97 : decode cX8_fittingCut 97 = .ok (.iinc 4 1, 3) := by decide +kernel
theorem dX8_fittingCut_100 : decode cX8_fittingCut 100 = .ok (.goto (-56), 3) := by decide +kernel
theorem dX8_fittingCut_103 : decode cX8_fittingCut 103 = .ok (.bipush (-6), 2) := by decide +kernel
theorem dX8_fittingCut_105 : decode cX8_fittingCut 105 = .ok (.ireturn, 1) := by decide +kernel
theorem dX8_ifFrost_0 : decode cX8_ifFrost 0 = .ok (.iconst 0, 1) := by decide +kernel
theorem dX8_ifFrost_1 : decode cX8_ifFrost 1 = .ok (.istore_n 1, 1) := by decide +kernel
theorem dX8_ifFrost_2 : decode cX8_ifFrost 2 = .ok (.iconst 0, 1) := by decide +kernel
theorem dX8_ifFrost_3 : decode cX8_ifFrost 3 = .ok (.istore_n 2, 1) := by decide +kernel
theorem dX8_ifFrost_4 : decode cX8_ifFrost 4 = .ok (.iload_n 2, 1) := by decide +kernel
theorem dX8_ifFrost_5 : decode cX8_ifFrost 5 = .ok (.aload_n 0, 1) := by decide +kernel
theorem dX8_ifFrost_6 : decode cX8_ifFrost 6 = .ok (.getfield 7, 3) := by decide +kernel
theorem dX8_ifFrost_9 : decode cX8_ifFrost 9 = .ok (.iconst 5, 1) := by decide +kernel
theorem dX8_ifFrost_10 : decode cX8_ifFrost 10 = .ok (.iaload, 1) := by decide +kernel
theorem dX8_ifFrost_11 : decode cX8_ifFrost 11 = .ok (.if_icmp .ge 27, 3) := by decide +kernel
theorem dX8_ifFrost_14 : decode cX8_ifFrost 14 = .ok (.iload_n 1, 1) := by decide +kernel
theorem dX8_ifFrost_15 : decode cX8_ifFrost 15 = .ok (.aload_n 0, 1) := by decide +kernel
theorem dX8_ifFrost_16 : decode cX8_ifFrost 16 = .ok (.iload_n 2, 1) := by decide +kernel
theorem dX8_ifFrost_17 : decode cX8_ifFrost 17 = .ok (.invokevirtual 131, 3) := by decide +kernel
theorem dX8_ifFrost_20 : decode cX8_ifFrost 20 = .ok (.ifCond .eq 9, 3) := by decide +kernel
theorem dX8_ifFrost_23 : decode cX8_ifFrost 23 = .ok (.iconst 1, 1) := by decide +kernel
theorem dX8_ifFrost_24 : decode cX8_ifFrost 24 = .ok (.iload_n 2, 1) := by decide +kernel
theorem dX8_ifFrost_25 : decode cX8_ifFrost 25 = .ok (.ishl, 1) := by decide +kernel
theorem dX8_ifFrost_26 : decode cX8_ifFrost 26 = .ok (.goto 4, 3) := by decide +kernel
theorem dX8_ifFrost_29 : decode cX8_ifFrost 29 = .ok (.iconst 0, 1) := by decide +kernel
theorem dX8_ifFrost_30 : decode cX8_ifFrost 30 = .ok (.ior, 1) := by decide +kernel
theorem dX8_ifFrost_31 : decode cX8_ifFrost 31 = .ok (.istore_n 1, 1) := by decide +kernel
theorem dX8_ifFrost_32 : decode cX8_ifFrost 32 = .ok (.iinc 2 1, 3) := by decide +kernel
theorem dX8_ifFrost_35 : decode cX8_ifFrost 35 = .ok (.goto (-31), 3) := by decide +kernel
theorem dX8_ifFrost_38 : decode cX8_ifFrost 38 = .ok (.iload_n 1, 1) := by decide +kernel
theorem dX8_ifFrost_39 : decode cX8_ifFrost 39 = .ok (.ireturn, 1) := by decide +kernel
theorem dX8_share_0 : decode cX8_share 0 = .ok (.aload_n 0, 1) := by decide +kernel
theorem dX8_share_1 : decode cX8_share 1 = .ok (.iload_n 2, 1) := by decide +kernel
theorem dX8_share_2 : decode cX8_share 2 = .ok (.iconst 0, 1) := by decide +kernel
theorem dX8_share_3 : decode cX8_share 3 = .ok (.iload_n 1, 1) := by decide +kernel
theorem dX8_share_4 : decode cX8_share 4 = .ok (.iload_n 3, 1) := by decide +kernel
theorem dX8_share_5 : decode cX8_share 5 = .ok (.invokevirtual 79, 3) := by decide +kernel
theorem dX8_share_8 : decode cX8_share 8 = .ok (.aload_n 0, 1) := by decide +kernel
theorem dX8_share_9 : decode cX8_share 9 = .ok (.getfield 7, 3) := by decide +kernel
theorem dX8_share_12 : decode cX8_share 12 = .ok (.iload_n 2, 1) := by decide +kernel
theorem dX8_share_13 : decode cX8_share 13 = .ok (.iconst 0, 1) := by decide +kernel
theorem dX8_share_14 : decode cX8_share 14 = .ok (.invokestatic 35, 3) := by decide +kernel
theorem dX8_share_17 : decode cX8_share 17 = .ok (.iaload, 1) := by decide +kernel
theorem dX8_share_18 : decode cX8_share 18 = .ok (.i2f, 1) := by decide +kernel
theorem dX8_share_19 : decode cX8_share 19 = .ok (.fdiv, 1) := by decide +kernel
theorem dX8_share_20 : decode cX8_share 20 = .ok (.fstore 4, 2) := by decide +kernel
theorem dX8_share_22 : decode cX8_share 22 = .ok (.aload_n 0, 1) := by decide +kernel
theorem dX8_share_23 : decode cX8_share 23 = .ok (.iload_n 2, 1) := by decide +kernel
theorem dX8_share_24 : decode cX8_share 24 = .ok (.iconst 1, 1) := by decide +kernel
theorem dX8_share_25 : decode cX8_share 25 = .ok (.iload_n 1, 1) := by decide +kernel
theorem dX8_share_26 : decode cX8_share 26 = .ok (.iload_n 3, 1) := by decide +kernel
theorem dX8_share_27 : decode cX8_share 27 = .ok (.invokevirtual 79, 3) := by decide +kernel
theorem dX8_share_30 : decode cX8_share 30 = .ok (.aload_n 0, 1) := by decide +kernel
theorem dX8_share_31 : decode cX8_share 31 = .ok (.getfield 7, 3) := by decide +kernel
theorem dX8_share_34 : decode cX8_share 34 = .ok (.iload_n 2, 1) := by decide +kernel
theorem dX8_share_35 : decode cX8_share 35 = .ok (.iconst 1, 1) := by decide +kernel
theorem dX8_share_36 : decode cX8_share 36 = .ok (.invokestatic 35, 3) := by decide +kernel
theorem dX8_share_39 : decode cX8_share 39 = .ok (.iaload, 1) := by decide +kernel
theorem dX8_share_40 : decode cX8_share 40 = .ok (.i2f, 1) := by decide +kernel
theorem dX8_share_41 : decode cX8_share 41 = .ok (.fdiv, 1) := by decide +kernel
theorem dX8_share_42 : decode cX8_share 42 = .ok (.fstore 5, 2) := by decide +kernel
theorem dX8_share_44 : decode cX8_share 44 = .ok (.fload 4, 2) := by decide +kernel
theorem dX8_share_46 : decode cX8_share 46 = .ok (.fload 5, 2) := by decide +kernel
theorem dX8_share_48 : decode cX8_share 48 = .ok (.fcmp .l, 1) := by decide +kernel
theorem dX8_share_49 : decode cX8_share 49 = .ok (.ifCond .le 8, 3) := by decide +kernel
theorem dX8_share_52 : decode cX8_share 52 = .ok (.fload 4, 2) := by decide +kernel
theorem dX8_share_54 : decode cX8_share 54 = .ok (.goto 5, 3) := by decide +kernel
theorem dX8_share_57 : decode cX8_share 57 = .ok (.fload 5, 2) := by decide +kernel
theorem dX8_share_59 : decode cX8_share 59 = .ok (.freturn, 1) := by decide +kernel
theorem dX8_bestPlace_0 : decode cX8_bestPlace 0 = .ok (.aload_n 0, 1) := by decide +kernel
theorem dX8_bestPlace_1 : decode cX8_bestPlace 1 = .ok (.iload_n 1, 1) := by decide +kernel
theorem dX8_bestPlace_2 : decode cX8_bestPlace 2 = .ok (.invokevirtual 103, 3) := by decide +kernel
theorem dX8_bestPlace_5 : decode cX8_bestPlace 5 = .ok (.ifCond .eq 10, 3) := by decide +kernel
theorem dX8_bestPlace_8 : decode cX8_bestPlace 8 = .ok (.iload_n 2, 1) := by decide +kernel
theorem dX8_bestPlace_9 : decode cX8_bestPlace 9 = .ok (.invokestatic 122, 3) := by decide +kernel
theorem dX8_bestPlace_12 : decode cX8_bestPlace 12 = .ok (.ifCond .ne 5, 3) := by decide +kernel
theorem dX8_bestPlace_15 : decode cX8_bestPlace 15 = .ok (.iconst (-1), 1) := by decide +kernel
theorem dX8_bestPlace_16 : decode cX8_bestPlace 16 = .ok (.ireturn, 1) := by decide +kernel
theorem dX8_bestPlace_17 : decode cX8_bestPlace 17 = .ok (.aload_n 0, 1) := by decide +kernel
theorem dX8_bestPlace_18 : decode cX8_bestPlace 18 = .ok (.iload_n 1, 1) := by decide +kernel
theorem dX8_bestPlace_19 : decode cX8_bestPlace 19 = .ok (.invokevirtual 100, 3) := by decide +kernel
theorem dX8_bestPlace_22 : decode cX8_bestPlace 22 = .ok (.ifCond .ne 6, 3) := by decide +kernel
theorem dX8_bestPlace_25 : decode cX8_bestPlace 25 = .ok (.bipush (-5), 2) := by decide +kernel
theorem dX8_bestPlace_27 : decode cX8_bestPlace 27 = .ok (.ireturn, 1) := by decide +kernel
theorem dX8_bestPlace_28 : decode cX8_bestPlace 28 = .ok (.bipush (-6), 2) := by decide +kernel
theorem dX8_bestPlace_30 : decode cX8_bestPlace 30 = .ok (.istore_n 3, 1) := by decide +kernel
theorem dX8_bestPlace_31 : decode cX8_bestPlace 31 = .ok (.iconst 4, 1) := by decide +kernel
theorem dX8_bestPlace_32 : decode cX8_bestPlace 32 = .ok (.istore 4, 2) := by decide +kernel
theorem dX8_bestPlace_34 : decode cX8_bestPlace 34 = .ok (.iload 4, 2) := by decide +kernel
theorem dX8_bestPlace_36 : decode cX8_bestPlace 36 = .ok (.ifCond .lt 65, 3) := by decide +kernel
theorem dX8_bestPlace_39 : decode cX8_bestPlace 39 = .ok (.aload_n 0, 1) := by decide +kernel
theorem dX8_bestPlace_40 : decode cX8_bestPlace 40 = .ok (.iload_n 2, 1) := by decide +kernel
theorem dX8_bestPlace_41 : decode cX8_bestPlace 41 = .ok (.iload 4, 2) := by decide +kernel
theorem dX8_bestPlace_43 : decode cX8_bestPlace 43 = .ok (.invokevirtual 75, 3) := by decide +kernel
theorem dX8_bestPlace_46 : decode cX8_bestPlace 46 = .ok (.bipush (-6), 2) := by decide +kernel
theorem dX8_bestPlace_48 : decode cX8_bestPlace 48 = .ok (.if_icmp .ne 7, 3) := by decide +kernel
theorem dX8_bestPlace_51 : decode cX8_bestPlace 51 = .ok (.iconst 1, 1) := by decide +kernel
theorem dX8_bestPlace_52 : decode cX8_bestPlace 52 = .ok (.goto 4, 3) := by decide +kernel
theorem dX8_bestPlace_55 : decode cX8_bestPlace 55 = .ok (.iconst 0, 1) := by decide +kernel
theorem dX8_bestPlace_56 : decode cX8_bestPlace 56 = .ok (.istore 5, 2) := by decide +kernel
theorem dX8_bestPlace_58 : decode cX8_bestPlace 58 = .ok (.iload 5, 2) := by decide +kernel
theorem dX8_bestPlace_60 : decode cX8_bestPlace 60 = .ok (.ifCond .eq 33, 3) := by decide +kernel
theorem dX8_bestPlace_63 : decode cX8_bestPlace 63 = .ok (.iload_n 3, 1) := by decide +kernel
theorem dX8_bestPlace_64 : decode cX8_bestPlace 64 = .ok (.bipush (-6), 2) := by decide +kernel
theorem dX8_bestPlace_66 : decode cX8_bestPlace 66 = .ok (.if_icmp .eq 22, 3) := by decide +kernel
theorem dX8_bestPlace_69 : decode cX8_bestPlace 69 = .ok (.aload_n 0, 1) := by decide +kernel
theorem dX8_bestPlace_70 : decode cX8_bestPlace 70 = .ok (.iload_n 1, 1) := by decide +kernel
theorem dX8_bestPlace_71 : decode cX8_bestPlace 71 = .ok (.iload_n 2, 1) := by decide +kernel
theorem dX8_bestPlace_72 : decode cX8_bestPlace 72 = .ok (.iload 4, 2) := by decide +kernel
theorem dX8_bestPlace_74 : decode cX8_bestPlace 74 = .ok (.invokevirtual 210, 3) := by decide +kernel
theorem dX8_bestPlace_77 : decode cX8_bestPlace 77 = .ok (.aload_n 0, 1) := by decide +kernel
theorem dX8_bestPlace_78 : decode cX8_bestPlace 78 = .ok (.iload_n 1, 1) := by decide +kernel
theorem dX8_bestPlace_79 : decode cX8_bestPlace 79 = .ok (.iload_n 2, 1) := by decide +kernel
theorem dX8_bestPlace_80 : decode cX8_bestPlace 80 = .ok (.iload_n 3, 1) := by decide +kernel
theorem dX8_bestPlace_81 : decode cX8_bestPlace 81 = .ok (.invokevirtual 210, 3) := by decide +kernel
theorem dX8_bestPlace_84 : decode cX8_bestPlace 84 = .ok (.fcmp .g, 1) := by decide +kernel
theorem dX8_bestPlace_85 : decode cX8_bestPlace 85 = .ok (.ifCond .gt 8, 3) := by decide +kernel
theorem dX8_bestPlace_88 : decode cX8_bestPlace 88 = .ok (.iload 4, 2) := by decide +kernel
theorem dX8_bestPlace_90 : decode cX8_bestPlace 90 = .ok (.goto 4, 3) := by decide +kernel
theorem dX8_bestPlace_93 : decode cX8_bestPlace 93 = .ok (.iload_n 3, 1) := by decide +kernel
theorem dX8_bestPlace_94 : decode cX8_bestPlace 94 = .ok (.istore_n 3, 1) := by decide +kernel
theorem dX8_bestPlace_95 : decode cX8_bestPlace 95 = .ok (.iinc 4 (-1), 3) := by decide +kernel
theorem dX8_bestPlace_98 : decode cX8_bestPlace 98 = .ok (.goto (-64), 3) := by decide +kernel
theorem dX8_bestPlace_101 : decode cX8_bestPlace 101 = .ok (.iload_n 3, 1) := by decide +kernel
theorem dX8_bestPlace_102 : decode cX8_bestPlace 102 = .ok (.ireturn, 1) := by decide +kernel
theorem dX8_put_0 : decode cX8_put 0 = .ok (.iconst 0, 1) := by decide +kernel
theorem dX8_put_1 : decode cX8_put 1 = .ok (.istore_n 3, 1) := by decide +kernel
theorem dX8_put_2 : decode cX8_put 2 = .ok (.iconst 0, 1) := by decide +kernel
theorem dX8_put_3 : decode cX8_put 3 = .ok (.istore 4, 2) := by decide +kernel
theorem dX8_put_5 : decode cX8_put 5 = .ok (.iconst 0, 1) := by decide +kernel
theorem dX8_put_6 : decode cX8_put 6 = .ok (.istore 5, 2) := by decide +kernel
theorem dX8_put_8 : decode cX8_put 8 = .ok (.iload 5, 2) := by decide +kernel
theorem dX8_put_10 : decode cX8_put 10 = .ok (.bipush 8, 2) := by decide +kernel
theorem dX8_put_12 : decode cX8_put 12 = .ok (.if_icmp .ge 89, 3) := by decide +kernel
theorem dX8_put_15 : decode cX8_put 15 = .ok (.lload_n 1, 1) := by decide +kernel
theorem dX8_put_16 : decode cX8_put 16 = .ok (.bipush 8, 2) := by decide +kernel
theorem dX8_put_18 : decode cX8_put 18 = .ok (.iload 5, 2) := by decide +kernel
theorem dX8_put_20 : decode cX8_put 20 = .ok (.imul, 1) := by decide +kernel
theorem dX8_put_21 : decode cX8_put 21 = .ok (.lushr, 1) := by decide +kernel
theorem dX8_put_22 : decode cX8_put 22 = .ok (.ldc2_w 214, 3) := by decide +kernel
theorem dX8_put_25 : decode cX8_put 25 = .ok (.land, 1) := by decide +kernel
theorem dX8_put_26 : decode cX8_put 26 = .ok (.l2i, 1) := by decide +kernel
theorem dX8_put_27 : decode cX8_put 27 = .ok (.istore 6, 2) := by decide +kernel
theorem dX8_put_29 : decode cX8_put 29 = .ok (.iload 5, 2) := by decide +kernel
theorem dX8_put_31 : decode cX8_put 31 = .ok (.ifCond .le 19, 3) := by decide +kernel
theorem dX8_put_34 : decode cX8_put 34 = .ok (.lload_n 1, 1) := by decide +kernel
theorem dX8_put_35 : decode cX8_put 35 = .ok (.bipush 8, 2) := by decide +kernel
theorem dX8_put_37 : decode cX8_put 37 = .ok (.iload 5, 2) := by decide +kernel
theorem dX8_put_39 : decode cX8_put 39 = .ok (.imul, 1) := by decide +kernel
theorem dX8_put_40 : decode cX8_put 40 = .ok (.lushr, 1) := by decide +kernel
theorem dX8_put_41 : decode cX8_put 41 = .ok (.lconst 0, 1) := by decide +kernel
theorem dX8_put_42 : decode cX8_put 42 = .ok (.lcmp, 1) := by decide +kernel
theorem dX8_put_43 : decode cX8_put 43 = .ok (.ifCond .ne 7, 3) := by decide +kernel
theorem dX8_put_46 : decode cX8_put 46 = .ok (.iconst 1, 1) := by decide +kernel
theorem dX8_put_47 : decode cX8_put 47 = .ok (.goto 4, 3) := by decide +kernel
theorem dX8_put_50 : decode cX8_put 50 = .ok (.iconst 0, 1) := by decide +kernel
theorem dX8_put_51 : decode cX8_put 51 = .ok (.istore 7, 2) := by decide +kernel
theorem dX8_put_53 : decode cX8_put 53 = .ok (.iload 4, 2) := by decide +kernel
theorem dX8_put_55 : decode cX8_put 55 = .ok (.ifCond .ne 20, 3) := by decide +kernel
theorem dX8_put_58 : decode cX8_put 58 = .ok (.iload 7, 2) := by decide +kernel
theorem dX8_put_60 : decode cX8_put 60 = .ok (.ifCond .ne 19, 3) := by decide +kernel
theorem dX8_put_63 : decode cX8_put 63 = .ok (.iload 6, 2) := by decide +kernel
theorem dX8_put_65 : decode cX8_put 65 = .ok (.bipush 33, 2) := by decide +kernel
theorem dX8_put_67 : decode cX8_put 67 = .ok (.bipush 126, 2) := by decide +kernel
theorem dX8_put_69 : decode cX8_put 69 = .ok (.invokestatic 39, 3) := by decide +kernel
theorem dX8_put_72 : decode cX8_put 72 = .ok (.ifCond .ne 7, 3) := by decide +kernel
theorem dX8_put_75 : decode cX8_put 75 = .ok (.iconst 1, 1) := by decide +kernel
theorem dX8_put_76 : decode cX8_put 76 = .ok (.goto 4, 3) := by decide +kernel
theorem dX8_put_79 : decode cX8_put 79 = .ok (.iconst 0, 1) := by decide +kernel
theorem dX8_put_80 : decode cX8_put 80 = .ok (.istore 4, 2) := by decide +kernel
theorem dX8_put_82 : decode cX8_put 82 = .ok (.iload_n 3, 1) := by decide +kernel
theorem dX8_put_83 : decode cX8_put 83 = .ok (.iload 7, 2) := by decide +kernel
theorem dX8_put_85 : decode cX8_put 85 = .ok (.ifCond .eq 7, 3) := by decide +kernel
theorem dX8_put_88 : decode cX8_put 88 = .ok (.iconst 0, 1) := by decide +kernel
theorem dX8_put_89 : decode cX8_put 89 = .ok (.goto 4, 3) := by decide +kernel
theorem dX8_put_92 : decode cX8_put 92 = .ok (.iconst 1, 1) := by decide +kernel
theorem dX8_put_93 : decode cX8_put 93 = .ok (.iadd, 1) := by decide +kernel
theorem dX8_put_94 : decode cX8_put 94 = .ok (.istore_n 3, 1) := by decide +kernel
theorem dX8_put_95 : decode cX8_put 95 = .ok (.iinc 5 1, 3) := by decide +kernel
theorem dX8_put_98 : decode cX8_put 98 = .ok (.goto (-90), 3) := by decide +kernel
theorem dX8_put_101 : decode cX8_put 101 = .ok (.iload 4, 2) := by decide +kernel
theorem dX8_put_103 : decode cX8_put 103 = .ok (.ifCond .eq 6, 3) := by decide +kernel
theorem dX8_put_106 : decode cX8_put 106 = .ok (.bipush (-2), 2) := by decide +kernel
theorem dX8_put_108 : decode cX8_put 108 = .ok (.ireturn, 1) := by decide +kernel
theorem dX8_put_109 : decode cX8_put 109 = .ok (.aload_n 0, 1) := by decide +kernel
theorem dX8_put_110 : decode cX8_put 110 = .ok (.getfield 189, 3) := by decide +kernel
theorem dX8_put_113 : decode cX8_put 113 = .ok (.iload_n 3, 1) := by decide +kernel
theorem dX8_put_114 : decode cX8_put 114 = .ok (.iadd, 1) := by decide +kernel
theorem dX8_put_115 : decode cX8_put 115 = .ok (.bipush 80, 2) := by decide +kernel
theorem dX8_put_117 : decode cX8_put 117 = .ok (.if_icmp .le 6, 3) := by decide +kernel
theorem dX8_put_120 : decode cX8_put 120 = .ok (.bipush (-4), 2) := by decide +kernel
theorem dX8_put_122 : decode cX8_put 122 = .ok (.ireturn, 1) := by decide +kernel
theorem dX8_put_123 : decode cX8_put 123 = .ok (.iconst 0, 1) := by decide +kernel
theorem dX8_put_124 : decode cX8_put 124 = .ok (.istore 5, 2) := by decide +kernel
theorem dX8_put_126 : decode cX8_put 126 = .ok (.iload 5, 2) := by decide +kernel
theorem dX8_put_128 : decode cX8_put 128 = .ok (.iload_n 3, 1) := by decide +kernel
theorem dX8_put_129 : decode cX8_put 129 = .ok (.if_icmp .ge 37, 3) := by decide +kernel
theorem dX8_put_132 : decode cX8_put 132 = .ok (.aload_n 0, 1) := by decide +kernel
theorem dX8_put_133 : decode cX8_put 133 = .ok (.getfield 26, 3) := by decide +kernel
theorem dX8_put_136 : decode cX8_put 136 = .ok (.aload_n 0, 1) := by decide +kernel
theorem dX8_put_137 : decode cX8_put 137 = .ok (.getfield 189, 3) := by decide +kernel
theorem dX8_put_140 : decode cX8_put 140 = .ok (.iload_n 3, 1) := by decide +kernel
theorem dX8_put_141 : decode cX8_put 141 = .ok (.iadd, 1) := by decide +kernel
theorem dX8_put_142 : decode cX8_put 142 = .ok (.iconst 1, 1) := by decide +kernel
theorem dX8_put_143 : decode cX8_put 143 = .ok (.isub, 1) := by decide +kernel
theorem dX8_put_144 : decode cX8_put 144 = .ok (.iload 5, 2) := by decide +kernel
theorem dX8_put_146 : decode cX8_put 146 = .ok (.isub, 1) := by decide +kernel
theorem dX8_put_147 : decode cX8_put 147 = .ok (.lload_n 1, 1) := by decide +kernel
theorem dX8_put_148 : decode cX8_put 148 = .ok (.bipush 8, 2) := by decide +kernel
theorem dX8_put_150 : decode cX8_put 150 = .ok (.iload 5, 2) := by decide +kernel
theorem dX8_put_152 : decode cX8_put 152 = .ok (.imul, 1) := by decide +kernel
theorem dX8_put_153 : decode cX8_put 153 = .ok (.lushr, 1) := by decide +kernel
theorem dX8_put_154 : decode cX8_put 154 = .ok (.ldc2_w 214, 3) := by decide +kernel
theorem dX8_put_157 : decode cX8_put 157 = .ok (.land, 1) := by decide +kernel
theorem dX8_put_158 : decode cX8_put 158 = .ok (.l2i, 1) := by decide +kernel
theorem dX8_put_159 : decode cX8_put 159 = .ok (.iastore, 1) := by decide +kernel
theorem dX8_put_160 : decode cX8_put 160 = .ok (.iinc 5 1, 3) := by decide +kernel
theorem dX8_put_163 : decode cX8_put 163 = .ok (.goto (-37), 3) := by decide +kernel
theorem dX8_put_166 : decode cX8_put 166 = .ok (.aload_n 0, 1) := by decide +kernel
theorem dX8_put_167 : decode cX8_put 167 = .ok (.dup, 1) := by decide +kernel
theorem dX8_put_168 : decode cX8_put 168 = .ok (.getfield 189, 3) := by decide +kernel
theorem dX8_put_171 : decode cX8_put 171 = .ok (.iload_n 3, 1) := by decide +kernel
theorem dX8_put_172 : decode cX8_put 172 = .ok (.iadd, 1) := by decide +kernel
theorem dX8_put_173 : decode cX8_put 173 = .ok (.putfield 189, 3) := by decide +kernel
theorem dX8_put_176 : decode cX8_put 176 = .ok (.aload_n 0, 1) := by decide +kernel
theorem dX8_put_177 : decode cX8_put 177 = .ok (.getfield 189, 3) := by decide +kernel
theorem dX8_put_180 : decode cX8_put 180 = .ok (.ireturn, 1) := by decide +kernel
theorem dX8_wipe_0 : decode cX8_wipe 0 = .ok (.aload_n 0, 1) := by decide +kernel
theorem dX8_wipe_1 : decode cX8_wipe 1 = .ok (.getfield 189, 3) := by decide +kernel
theorem dX8_wipe_4 : decode cX8_wipe 4 = .ok (.istore_n 1, 1) := by decide +kernel
theorem dX8_wipe_5 : decode cX8_wipe 5 = .ok (.aload_n 0, 1) := by decide +kernel
theorem dX8_wipe_6 : decode cX8_wipe 6 = .ok (.iconst 0, 1) := by decide +kernel
theorem dX8_wipe_7 : decode cX8_wipe 7 = .ok (.putfield 189, 3) := by decide +kernel
theorem dX8_wipe_10 : decode cX8_wipe 10 = .ok (.iload_n 1, 1) := by decide +kernel
theorem dX8_wipe_11 : decode cX8_wipe 11 = .ok (.ireturn, 1) := by decide +kernel
theorem dX8_isNext_0 : decode cX8_isNext 0 = .ok (.aload_n 0, 1) := by decide +kernel
theorem dX8_isNext_1 : decode cX8_isNext 1 = .ok (.getfield 216, 3) := by decide +kernel
theorem dX8_isNext_4 : decode cX8_isNext 4 = .ok (.ifCond .ne 35, 3) := by decide +kernel
theorem dX8_isNext_7 : decode cX8_isNext 7 = .ok (.aload_n 0, 1) := by decide +kernel
theorem dX8_isNext_8 : decode cX8_isNext 8 = .ok (.getfield 220, 3) := by decide +kernel
theorem dX8_isNext_11 : decode cX8_isNext 11 = .ok (.aload_n 0, 1) := by decide +kernel
theorem dX8_isNext_12 : decode cX8_isNext 12 = .ok (.getfield 189, 3) := by decide +kernel
theorem dX8_isNext_15 : decode cX8_isNext 15 = .ok (.if_icmp .ge 24, 3) := by decide +kernel
theorem dX8_isNext_18 : decode cX8_isNext 18 = .ok (.aload_n 0, 1) := by decide +kernel
theorem dX8_isNext_19 : decode cX8_isNext 19 = .ok (.getfield 26, 3) := by decide +kernel
theorem dX8_isNext_22 : decode cX8_isNext 22 = .ok (.aload_n 0, 1) := by decide +kernel
theorem dX8_isNext_23 : decode cX8_isNext 23 = .ok (.getfield 220, 3) := by decide +kernel
theorem dX8_isNext_26 : decode cX8_isNext 26 = .ok (.iaload, 1) := by decide +kernel
theorem dX8_isNext_27 : decode cX8_isNext 27 = .ok (.iload_n 1, 1) := by decide +kernel
theorem dX8_isNext_28 : decode cX8_isNext 28 = .ok (.iload_n 2, 1) := by decide +kernel
theorem dX8_isNext_29 : decode cX8_isNext 29 = .ok (.invokestatic 39, 3) := by decide +kernel
theorem dX8_isNext_32 : decode cX8_isNext 32 = .ok (.ifCond .eq 7, 3) := by decide +kernel
theorem dX8_isNext_35 : decode cX8_isNext 35 = .ok (.iconst 1, 1) := by decide +kernel
theorem dX8_isNext_36 : decode cX8_isNext 36 = .ok (.goto 4, 3) := by decide +kernel
theorem dX8_isNext_39 : decode cX8_isNext 39 = .ok (.iconst 0, 1) := by decide +kernel
theorem dX8_isNext_40 : decode cX8_isNext 40 = .ok (.ireturn, 1) := by decide +kernel
theorem dX8_takes_0 : decode cX8_takes 0 = .ok (.aload_n 0, 1) := by decide +kernel
theorem dX8_takes_1 : decode cX8_takes 1 = .ok (.getfield 220, 3) := by decide +kernel
theorem dX8_takes_4 : decode cX8_takes 4 = .ok (.aload_n 0, 1) := by decide +kernel
theorem dX8_takes_5 : decode cX8_takes 5 = .ok (.getfield 189, 3) := by decide +kernel
theorem dX8_takes_8 : decode cX8_takes 8 = .ok (.if_icmp .ge 15, 3) := by decide +kernel
theorem dX8_takes_11 : decode cX8_takes 11 = .ok (.aload_n 0, 1) := by decide +kernel
theorem dX8_takes_12 : decode cX8_takes 12 = .ok (.getfield 26, 3) := by decide +kernel
theorem dX8_takes_15 : decode cX8_takes 15 = .ok (.aload_n 0, 1) := by decide +kernel
theorem dX8_takes_16 : decode cX8_takes 16 = .ok (.getfield 220, 3) := by decide +kernel
theorem dX8_takes_19 : decode cX8_takes 19 = .ok (.iaload, 1) := by decide +kernel
theorem dX8_takes_20 : decode cX8_takes 20 = .ok (.goto 4, 3) := by decide +kernel
theorem dX8_takes_23 : decode cX8_takes 23 = .ok (.iconst 0, 1) := by decide +kernel
theorem dX8_takes_24 : decode cX8_takes 24 = .ok (.istore_n 3, 1) := by decide +kernel
theorem dX8_takes_25 : decode cX8_takes 25 = .ok (.aload_n 0, 1) := by decide +kernel
theorem dX8_takes_26 : decode cX8_takes 26 = .ok (.aload_n 0, 1) := by decide +kernel
theorem dX8_takes_27 : decode cX8_takes 27 = .ok (.getfield 216, 3) := by decide +kernel
theorem dX8_takes_30 : decode cX8_takes 30 = .ok (.ifCond .ne 12, 3) := by decide +kernel
theorem dX8_takes_33 : decode cX8_takes 33 = .ok (.iload_n 3, 1) := by decide +kernel
theorem dX8_takes_34 : decode cX8_takes 34 = .ok (.iload_n 1, 1) := by decide +kernel
theorem dX8_takes_35 : decode cX8_takes 35 = .ok (.iload_n 2, 1) := by decide +kernel
theorem dX8_takes_36 : decode cX8_takes 36 = .ok (.invokestatic 39, 3) := by decide +kernel
theorem dX8_takes_39 : decode cX8_takes 39 = .ok (.ifCond .ne 7, 3) := by decide +kernel
theorem dX8_takes_42 : decode cX8_takes 42 = .ok (.iconst 1, 1) := by decide +kernel
theorem dX8_takes_43 : decode cX8_takes 43 = .ok (.goto 4, 3) := by decide +kernel
theorem dX8_takes_46 : decode cX8_takes 46 = .ok (.iconst 0, 1) := by decide +kernel
theorem dX8_takes_47 : decode cX8_takes 47 = .ok (.putfield 216, 3) := by decide +kernel
theorem dX8_takes_50 : decode cX8_takes 50 = .ok (.aload_n 0, 1) := by decide +kernel
theorem dX8_takes_51 : decode cX8_takes 51 = .ok (.dup, 1) := by decide +kernel
theorem dX8_takes_52 : decode cX8_takes 52 = .ok (.getfield 220, 3) := by decide +kernel
theorem dX8_takes_55 : decode cX8_takes 55 = .ok (.aload_n 0, 1) := by decide +kernel
theorem dX8_takes_56 : decode cX8_takes 56 = .ok (.getfield 216, 3) := by decide +kernel
theorem dX8_takes_59 : decode cX8_takes 59 = .ok (.ifCond .eq 7, 3) := by decide +kernel
theorem dX8_takes_62 : decode cX8_takes 62 = .ok (.iconst 0, 1) := by decide +kernel
theorem dX8_takes_63 : decode cX8_takes 63 = .ok (.goto 4, 3) := by decide +kernel
theorem dX8_takes_66 : decode cX8_takes 66 = .ok (.iconst 1, 1) := by decide +kernel
theorem dX8_takes_67 : decode cX8_takes 67 = .ok (.iadd, 1) := by decide +kernel
theorem dX8_takes_68 : decode cX8_takes 68 = .ok (.putfield 220, 3) := by decide +kernel
theorem dX8_takes_71 : decode cX8_takes 71 = .ok (.iload_n 3, 1) := by decide +kernel
theorem dX8_takes_72 : decode cX8_takes 72 = .ok (.iload_n 1, 1) := by decide +kernel
theorem dX8_takes_73 : decode cX8_takes 73 = .ok (.isub, 1) := by decide +kernel
theorem dX8_takes_74 : decode cX8_takes 74 = .ok (.ireturn, 1) := by decide +kernel
theorem dX8_takesNumber_0 : decode cX8_takesNumber 0 = .ok (.aload_n 0, 1) := by decide +kernel
theorem dX8_takesNumber_1 : decode cX8_takesNumber 1 = .ok (.bipush 48, 2) := by decide +kernel
theorem dX8_takesNumber_3 : decode cX8_takesNumber 3 = .ok (.bipush 57, 2) := by decide +kernel
theorem dX8_takesNumber_5 : decode cX8_takesNumber 5 = .ok (.invokevirtual 223, 3) := by decide +kernel
theorem dX8_takesNumber_8 : decode cX8_takesNumber 8 = .ok (.istore_n 1, 1) := by decide +kernel
theorem dX8_takesNumber_9 : decode cX8_takesNumber 9 = .ok (.iconst 0, 1) := by decide +kernel
theorem dX8_takesNumber_10 : decode cX8_takesNumber 10 = .ok (.istore_n 2, 1) := by decide +kernel
theorem dX8_takesNumber_11 : decode cX8_takesNumber 11 = .ok (.iload_n 2, 1) := by decide +kernel
theorem dX8_takesNumber_12 : decode cX8_takesNumber 12 = .ok (.iconst 2, 1) := by decide +kernel
theorem dX8_takesNumber_13 : decode cX8_takesNumber 13 = .ok (.if_icmp .ge 38, 3) := by decide +kernel
theorem dX8_takesNumber_16 : decode cX8_takesNumber 16 = .ok (.iload_n 1, 1) := by decide +kernel
theorem dX8_takesNumber_17 : decode cX8_takesNumber 17 = .ok (.ifCond .le 34, 3) := by decide +kernel
theorem dX8_takesNumber_20 : decode cX8_takesNumber 20 = .ok (.aload_n 0, 1) := by decide +kernel
theorem dX8_takesNumber_21 : decode cX8_takesNumber 21 = .ok (.bipush 48, 2) := by decide +kernel
theorem dX8_takesNumber_23 : decode cX8_takesNumber 23 = .ok (.bipush 57, 2) := by decide +kernel
theorem dX8_takesNumber_25 : decode cX8_takesNumber 25 = .ok (.invokevirtual 226, 3) := by decide +kernel
theorem dX8_takesNumber_28 : decode cX8_takesNumber 28 = .ok (.ifCond .eq 23, 3) := by decide +kernel
theorem dX8_takesNumber_31 : decode cX8_takesNumber 31 = .ok (.bipush 10, 2) := by decide +kernel
theorem dX8_takesNumber_33 : decode cX8_takesNumber 33 = .ok (.iload_n 1, 1) := by decide +kernel
theorem dX8_takesNumber_34 : decode cX8_takesNumber 34 = .ok (.imul, 1) := by decide +kernel
theorem dX8_takesNumber_35 : decode cX8_takesNumber 35 = .ok (.aload_n 0, 1) := by decide +kernel
theorem dX8_takesNumber_36 : decode cX8_takesNumber 36 = .ok (.bipush 48, 2) := by decide +kernel
theorem dX8_takesNumber_38 : decode cX8_takesNumber 38 = .ok (.bipush 57, 2) := by decide +kernel
theorem dX8_takesNumber_40 : decode cX8_takesNumber 40 = .ok (.invokevirtual 223, 3) := by decide +kernel
theorem dX8_takesNumber_43 : decode cX8_takesNumber 43 = .ok (.iadd, 1) := by decide +kernel
theorem dX8_takesNumber_44 : decode cX8_takesNumber 44 = .ok (.istore_n 1, 1) := by decide +kernel
theorem dX8_takesNumber_45 : decode cX8_takesNumber 45 = .ok (.iinc 2 1, 3) := by decide +kernel
theorem dX8_takesNumber_48 : decode cX8_takesNumber 48 = .ok (.goto (-37), 3) := by decide +kernel
theorem dX8_takesNumber_51 : decode cX8_takesNumber 51 = .ok (.iload_n 1, 1) := by decide +kernel
theorem dX8_takesNumber_52 : decode cX8_takesNumber 52 = .ok (.ireturn, 1) := by decide +kernel
theorem dX8_takesBehind_0 : decode cX8_takesBehind 0 = .ok (.aload_n 0, 1) := by decide +kernel
theorem dX8_takesBehind_1 : decode cX8_takesBehind 1 = .ok (.iload_n 1, 1) := by decide +kernel
theorem dX8_takesBehind_2 : decode cX8_takesBehind 2 = .ok (.iload_n 1, 1) := by decide +kernel
theorem dX8_takesBehind_3 : decode cX8_takesBehind 3 = .ok (.invokevirtual 223, 3) := by decide +kernel
theorem dX8_takesBehind_6 : decode cX8_takesBehind 6 = .ok (.istore_n 2, 1) := by decide +kernel
theorem dX8_takesBehind_7 : decode cX8_takesBehind 7 = .ok (.aload_n 0, 1) := by decide +kernel
theorem dX8_takesBehind_8 : decode cX8_takesBehind 8 = .ok (.invokevirtual 229, 3) := by decide +kernel
theorem dX8_takesBehind_11 : decode cX8_takesBehind 11 = .ok (.ireturn, 1) := by decide +kernel
theorem dX8_readOrder_0 : decode cX8_readOrder 0 = .ok (.aload_n 0, 1) := by decide +kernel
theorem dX8_readOrder_1 : decode cX8_readOrder 1 = .ok (.getfield 220, 3) := by decide +kernel
theorem dX8_readOrder_4 : decode cX8_readOrder 4 = .ok (.aload_n 0, 1) := by decide +kernel
theorem dX8_readOrder_5 : decode cX8_readOrder 5 = .ok (.getfield 189, 3) := by decide +kernel
theorem dX8_readOrder_8 : decode cX8_readOrder 8 = .ok (.if_icmp .ge 15, 3) := by decide +kernel
theorem dX8_readOrder_11 : decode cX8_readOrder 11 = .ok (.aload_n 0, 1) := by decide +kernel
theorem dX8_readOrder_12 : decode cX8_readOrder 12 = .ok (.getfield 26, 3) := by decide +kernel
theorem dX8_readOrder_15 : decode cX8_readOrder 15 = .ok (.aload_n 0, 1) := by decide +kernel
theorem dX8_readOrder_16 : decode cX8_readOrder 16 = .ok (.getfield 220, 3) := by decide +kernel
theorem dX8_readOrder_19 : decode cX8_readOrder 19 = .ok (.iaload, 1) := by decide +kernel
theorem dX8_readOrder_20 : decode cX8_readOrder 20 = .ok (.goto 4, 3) := by decide +kernel
theorem dX8_readOrder_23 : decode cX8_readOrder 23 = .ok (.iconst 0, 1) := by decide +kernel
theorem dX8_readOrder_24 : decode cX8_readOrder 24 = .ok (.istore_n 1, 1) := by decide +kernel
theorem dX8_readOrder_25 : decode cX8_readOrder 25 = .ok (.iload_n 1, 1) := by decide +kernel
theorem dX8_readOrder_26 : decode cX8_readOrder 26 = .ok (.bipush 113, 2) := by decide +kernel
theorem dX8_readOrder_28 : decode cX8_readOrder 28 = .ok (.if_icmp .eq 39, 3) := by decide +kernel
theorem dX8_readOrder_31 : decode cX8_readOrder 31 = .ok (.iload_n 1, 1) := by decide +kernel
theorem dX8_readOrder_32 : decode cX8_readOrder 32 = .ok (.bipush 99, 2) := by decide +kernel
theorem dX8_readOrder_34 : decode cX8_readOrder 34 = .ok (.if_icmp .eq 33, 3) := by decide +kernel
theorem dX8_readOrder_37 : decode cX8_readOrder 37 = .ok (.iload_n 1, 1) := by decide +kernel
theorem dX8_readOrder_38 : decode cX8_readOrder 38 = .ok (.bipush 111, 2) := by decide +kernel
theorem dX8_readOrder_40 : decode cX8_readOrder 40 = .ok (.if_icmp .eq 27, 3) := by decide +kernel
theorem dX8_readOrder_43 : decode cX8_readOrder 43 = .ok (.iload_n 1, 1) := by decide +kernel
theorem dX8_readOrder_44 : decode cX8_readOrder 44 = .ok (.bipush 103, 2) := by decide +kernel
theorem dX8_readOrder_46 : decode cX8_readOrder 46 = .ok (.if_icmp .eq 21, 3) := by decide +kernel
theorem dX8_readOrder_49 : decode cX8_readOrder 49 = .ok (.iload_n 1, 1) := by decide +kernel
theorem dX8_readOrder_50 : decode cX8_readOrder 50 = .ok (.bipush 108, 2) := by decide +kernel
theorem dX8_readOrder_52 : decode cX8_readOrder 52 = .ok (.if_icmp .eq 15, 3) := by decide +kernel
theorem dX8_readOrder_55 : decode cX8_readOrder 55 = .ok (.iload_n 1, 1) := by decide +kernel
theorem dX8_readOrder_56 : decode cX8_readOrder 56 = .ok (.bipush 110, 2) := by decide +kernel
theorem dX8_readOrder_58 : decode cX8_readOrder 58 = .ok (.if_icmp .eq 9, 3) := by decide +kernel
theorem dX8_readOrder_61 : decode cX8_readOrder 61 = .ok (.iload_n 1, 1) := by decide +kernel
theorem dX8_readOrder_62 : decode cX8_readOrder 62 = .ok (.bipush 100, 2) := by decide +kernel
theorem dX8_readOrder_64 : decode cX8_readOrder 64 = .ok (.if_icmp .ne 7, 3) := by decide +kernel
theorem dX8_readOrder_67 : decode cX8_readOrder 67 = .ok (.iconst 1, 1) := by decide +kernel
theorem dX8_readOrder_68 : decode cX8_readOrder 68 = .ok (.goto 4, 3) := by decide +kernel
theorem dX8_readOrder_71 : decode cX8_readOrder 71 = .ok (.iconst 0, 1) := by decide +kernel
theorem dX8_readOrder_72 : decode cX8_readOrder 72 = .ok (.istore_n 2, 1) := by decide +kernel
theorem dX8_readOrder_73 : decode cX8_readOrder 73 = .ok (.aload_n 0, 1) := by decide +kernel
theorem dX8_readOrder_74 : decode cX8_readOrder 74 = .ok (.aload_n 0, 1) := by decide +kernel
theorem dX8_readOrder_75 : decode cX8_readOrder 75 = .ok (.getfield 216, 3) := by decide +kernel
theorem dX8_readOrder_78 : decode cX8_readOrder 78 = .ok (.ifCond .ne 7, 3) := by decide +kernel
theorem dX8_readOrder_81 : decode cX8_readOrder 81 = .ok (.iload_n 2, 1) := by decide +kernel
theorem dX8_readOrder_82 : decode cX8_readOrder 82 = .ok (.ifCond .ne 7, 3) := by decide +kernel
theorem dX8_readOrder_85 : decode cX8_readOrder 85 = .ok (.iconst 1, 1) := by decide +kernel
theorem dX8_readOrder_86 : decode cX8_readOrder 86 = .ok (.goto 4, 3) := by decide +kernel
theorem dX8_readOrder_89 : decode cX8_readOrder 89 = .ok (.iconst 0, 1) := by decide +kernel
theorem dX8_readOrder_90 : decode cX8_readOrder 90 = .ok (.putfield 216, 3) := by decide +kernel
theorem dX8_readOrder_93 : decode cX8_readOrder 93 = .ok (.aload_n 0, 1) := by decide +kernel
theorem dX8_readOrder_94 : decode cX8_readOrder 94 = .ok (.dup, 1) := by decide +kernel
theorem dX8_readOrder_95 : decode cX8_readOrder 95 = .ok (.getfield 220, 3) := by decide +kernel
theorem dX8_readOrder_98 : decode cX8_readOrder 98 = .ok (.aload_n 0, 1) := by decide +kernel
theorem dX8_readOrder_99 : decode cX8_readOrder 99 = .ok (.getfield 216, 3) := by decide +kernel
theorem dX8_readOrder_102 : decode cX8_readOrder 102 = .ok (.ifCond .eq 7, 3) := by decide +kernel
theorem dX8_readOrder_105 : decode cX8_readOrder 105 = .ok (.iconst 0, 1) := by decide +kernel
theorem dX8_readOrder_106 : decode cX8_readOrder 106 = .ok (.goto 4, 3) := by decide +kernel
theorem dX8_readOrder_109 : decode cX8_readOrder 109 = .ok (.iconst 1, 1) := by decide +kernel
theorem dX8_readOrder_110 : decode cX8_readOrder 110 = .ok (.iadd, 1) := by decide +kernel
theorem dX8_readOrder_111 : decode cX8_readOrder 111 = .ok (.putfield 220, 3) := by decide +kernel
theorem dX8_readOrder_114 : decode cX8_readOrder 114 = .ok (.aload_n 0, 1) := by decide +kernel
theorem dX8_readOrder_115 : decode cX8_readOrder 115 = .ok (.getfield 32, 3) := by decide +kernel
theorem dX8_readOrder_118 : decode cX8_readOrder 118 = .ok (.iconst 0, 1) := by decide +kernel
theorem dX8_readOrder_119 : decode cX8_readOrder 119 = .ok (.iload_n 1, 1) := by decide +kernel
theorem dX8_readOrder_120 : decode cX8_readOrder 120 = .ok (.iastore, 1) := by decide +kernel
theorem dX8_readOrder_121 : decode cX8_readOrder 121 = .ok (.iload_n 1, 1) := by decide +kernel
theorem dX8_readOrder_122 : decode cX8_readOrder 122 = .ok (.bipush 110, 2) := by decide +kernel
theorem dX8_readOrder_124 : decode cX8_readOrder 124 = .ok (.if_icmp .ne 18, 3) := by decide +kernel
theorem dX8_readOrder_127 : decode cX8_readOrder 127 = .ok (.aload_n 0, 1) := by decide +kernel
theorem dX8_readOrder_128 : decode cX8_readOrder 128 = .ok (.bipush 45, 2) := by decide +kernel
theorem dX8_readOrder_130 : decode cX8_readOrder 130 = .ok (.bipush 45, 2) := by decide +kernel
theorem dX8_readOrder_132 : decode cX8_readOrder 132 = .ok (.invokevirtual 226, 3) := by decide +kernel
theorem dX8_readOrder_135 : decode cX8_readOrder 135 = .ok (.ifCond .eq 7, 3) := by decide +kernel
theorem dX8_readOrder_138 : decode cX8_readOrder 138 = .ok (.iconst 1, 1) := by decide +kernel
theorem dX8_readOrder_139 : decode cX8_readOrder 139 = .ok (.goto 4, 3) := by decide +kernel
theorem dX8_readOrder_142 : decode cX8_readOrder 142 = .ok (.iconst 0, 1) := by decide +kernel
theorem dX8_readOrder_143 : decode cX8_readOrder 143 = .ok (.istore_n 3, 1) := by decide +kernel
theorem dX8_readOrder_144 : decode cX8_readOrder 144 = .ok (.aload_n 0, 1) := by decide +kernel
theorem dX8_readOrder_145 : decode cX8_readOrder 145 = .ok (.dup, 1) := by decide +kernel
theorem dX8_readOrder_146 : decode cX8_readOrder 146 = .ok (.getfield 220, 3) := by decide +kernel
theorem dX8_readOrder_149 : decode cX8_readOrder 149 = .ok (.iload_n 3, 1) := by decide +kernel
theorem dX8_readOrder_150 : decode cX8_readOrder 150 = .ok (.ifCond .eq 7, 3) := by decide +kernel
theorem dX8_readOrder_153 : decode cX8_readOrder 153 = .ok (.iconst 1, 1) := by decide +kernel
theorem dX8_readOrder_154 : decode cX8_readOrder 154 = .ok (.goto 4, 3) := by decide +kernel
theorem dX8_readOrder_157 : decode cX8_readOrder 157 = .ok (.iconst 0, 1) := by decide +kernel
theorem dX8_readOrder_158 : decode cX8_readOrder 158 = .ok (.iadd, 1) := by decide +kernel
theorem dX8_readOrder_159 : decode cX8_readOrder 159 = .ok (.putfield 220, 3) := by decide +kernel
theorem dX8_readOrder_162 : decode cX8_readOrder 162 = .ok (.aload_n 0, 1) := by decide +kernel
theorem dX8_readOrder_163 : decode cX8_readOrder 163 = .ok (.getfield 32, 3) := by decide +kernel
theorem dX8_readOrder_166 : decode cX8_readOrder 166 = .ok (.iconst 1, 1) := by decide +kernel
theorem dX8_readOrder_167 : decode cX8_readOrder 167 = .ok (.iload_n 1, 1) := by decide +kernel
theorem dX8_readOrder_168 : decode cX8_readOrder 168 = .ok (.bipush 100, 2) := by decide +kernel
theorem dX8_readOrder_170 : decode cX8_readOrder 170 = .ok (.if_icmp .ne 14, 3) := by decide +kernel
theorem dX8_readOrder_173 : decode cX8_readOrder 173 = .ok (.aload_n 0, 1) := by decide +kernel
theorem dX8_readOrder_174 : decode cX8_readOrder 174 = .ok (.bipush 48, 2) := by decide +kernel
theorem dX8_readOrder_176 : decode cX8_readOrder 176 = .ok (.bipush 57, 2) := by decide +kernel
theorem dX8_readOrder_178 : decode cX8_readOrder 178 = .ok (.invokevirtual 223, 3) := by decide +kernel
theorem dX8_readOrder_181 : decode cX8_readOrder 181 = .ok (.goto 7, 3) := by decide +kernel
theorem dX8_readOrder_184 : decode cX8_readOrder 184 = .ok (.aload_n 0, 1) := by decide +kernel
theorem dX8_readOrder_185 : decode cX8_readOrder 185 = .ok (.invokevirtual 229, 3) := by decide +kernel
theorem dX8_readOrder_188 : decode cX8_readOrder 188 = .ok (.iastore, 1) := by decide +kernel
theorem dX8_readOrder_189 : decode cX8_readOrder 189 = .ok (.aload_n 0, 1) := by decide +kernel
theorem dX8_readOrder_190 : decode cX8_readOrder 190 = .ok (.getfield 32, 3) := by decide +kernel
theorem dX8_readOrder_193 : decode cX8_readOrder 193 = .ok (.iconst 1, 1) := by decide +kernel
theorem dX8_readOrder_194 : decode cX8_readOrder 194 = .ok (.iload_n 3, 1) := by decide +kernel
theorem dX8_readOrder_195 : decode cX8_readOrder 195 = .ok (.ifCond .eq 13, 3) := by decide +kernel
theorem dX8_readOrder_198 : decode cX8_readOrder 198 = .ok (.aload_n 0, 1) := by decide +kernel
theorem dX8_readOrder_199 : decode cX8_readOrder 199 = .ok (.getfield 32, 3) := by decide +kernel
theorem dX8_readOrder_202 : decode cX8_readOrder 202 = .ok (.iconst 1, 1) := by decide +kernel
theorem dX8_readOrder_203 : decode cX8_readOrder 203 = .ok (.iaload, 1) := by decide +kernel
theorem dX8_readOrder_204 : decode cX8_readOrder 204 = .ok (.ineg, 1) := by decide +kernel
theorem dX8_readOrder_205 : decode cX8_readOrder 205 = .ok (.goto 9, 3) := by decide +kernel
theorem dX8_readOrder_208 : decode cX8_readOrder 208 = .ok (.aload_n 0, 1) := by decide +kernel
theorem dX8_readOrder_209 : decode cX8_readOrder 209 = .ok (.getfield 32, 3) := by decide +kernel
theorem dX8_readOrder_212 : decode cX8_readOrder 212 = .ok (.iconst 1, 1) := by decide +kernel
theorem dX8_readOrder_213 : decode cX8_readOrder 213 = .ok (.iaload, 1) := by decide +kernel
theorem dX8_readOrder_214 : decode cX8_readOrder 214 = .ok (.iastore, 1) := by decide +kernel
theorem dX8_readOrder_215 : decode cX8_readOrder 215 = .ok (.iload_n 1, 1) := by decide +kernel
theorem dX8_readOrder_216 : decode cX8_readOrder 216 = .ok (.bipush 113, 2) := by decide +kernel
theorem dX8_readOrder_218 : decode cX8_readOrder 218 = .ok (.if_icmp .eq 9, 3) := by decide +kernel
theorem dX8_readOrder_221 : decode cX8_readOrder 221 = .ok (.iload_n 1, 1) := by decide +kernel
theorem dX8_readOrder_222 : decode cX8_readOrder 222 = .ok (.bipush 111, 2) := by decide +kernel
theorem dX8_readOrder_224 : decode cX8_readOrder 224 = .ok (.if_icmp .ne 52, 3) := by decide +kernel
theorem dX8_readOrder_227 : decode cX8_readOrder 227 = .ok (.aload_n 0, 1) := by decide +kernel
theorem dX8_readOrder_228 : decode cX8_readOrder 228 = .ok (.getfield 32, 3) := by decide +kernel
theorem dX8_readOrder_231 : decode cX8_readOrder 231 = .ok (.iconst 2, 1) := by decide +kernel
theorem dX8_readOrder_232 : decode cX8_readOrder 232 = .ok (.aload_n 0, 1) := by decide +kernel
theorem dX8_readOrder_233 : decode cX8_readOrder 233 = .ok (.bipush 120, 2) := by decide +kernel
theorem dX8_readOrder_235 : decode cX8_readOrder 235 = .ok (.invokevirtual 232, 3) := by decide +kernel
theorem dX8_readOrder_238 : decode cX8_readOrder 238 = .ok (.iastore, 1) := by decide +kernel
theorem dX8_readOrder_239 : decode cX8_readOrder 239 = .ok (.aload_n 0, 1) := by decide +kernel
theorem dX8_readOrder_240 : decode cX8_readOrder 240 = .ok (.getfield 32, 3) := by decide +kernel
theorem dX8_readOrder_243 : decode cX8_readOrder 243 = .ok (.iconst 3, 1) := by decide +kernel
theorem dX8_readOrder_244 : decode cX8_readOrder 244 = .ok (.aload_n 0, 1) := by decide +kernel
theorem dX8_readOrder_245 : decode cX8_readOrder 245 = .ok (.bipush 120, 2) := by decide +kernel
theorem dX8_readOrder_247 : decode cX8_readOrder 247 = .ok (.invokevirtual 232, 3) := by decide +kernel
theorem dX8_readOrder_250 : decode cX8_readOrder 250 = .ok (.iastore, 1) := by decide +kernel
theorem dX8_readOrder_251 : decode cX8_readOrder 251 = .ok (.aload_n 0, 1) := by decide +kernel
theorem dX8_readOrder_252 : decode cX8_readOrder 252 = .ok (.getfield 32, 3) := by decide +kernel
theorem dX8_readOrder_255 : decode cX8_readOrder 255 = .ok (.iconst 4, 1) := by decide +kernel
theorem dX8_readOrder_256 : decode cX8_readOrder 256 = .ok (.iload_n 1, 1) := by decide +kernel
theorem dX8_readOrder_257 : decode cX8_readOrder 257 = .ok (.bipush 113, 2) := by decide +kernel
theorem dX8_readOrder_259 : decode cX8_readOrder 259 = .ok (.if_icmp .ne 12, 3) := by decide +kernel
theorem dX8_readOrder_262 : decode cX8_readOrder 262 = .ok (.aload_n 0, 1) := by decide +kernel
theorem dX8_readOrder_263 : decode cX8_readOrder 263 = .ok (.bipush 42, 2) := by decide +kernel
theorem dX8_readOrder_265 : decode cX8_readOrder 265 = .ok (.invokevirtual 232, 3) := by decide +kernel
theorem dX8_readOrder_268 : decode cX8_readOrder 268 = .ok (.goto 4, 3) := by decide +kernel
theorem dX8_readOrder_271 : decode cX8_readOrder 271 = .ok (.iconst 0, 1) := by decide +kernel
theorem dX8_readOrder_272 : decode cX8_readOrder 272 = .ok (.iastore, 1) := by decide +kernel
theorem dX8_readOrder_273 : decode cX8_readOrder 273 = .ok (.goto 89, 3) := by decide +kernel
theorem dX8_readOrder_276 : decode cX8_readOrder 276 = .ok (.iload_n 1, 1) := by decide +kernel
theorem dX8_readOrder_277 : decode cX8_readOrder 277 = .ok (.bipush 103, 2) := by decide +kernel
theorem dX8_readOrder_279 : decode cX8_readOrder 279 = .ok (.if_icmp .ne 18, 3) := by decide +kernel
theorem dX8_readOrder_282 : decode cX8_readOrder 282 = .ok (.aload_n 0, 1) := by decide +kernel
theorem dX8_readOrder_283 : decode cX8_readOrder 283 = .ok (.getfield 32, 3) := by decide +kernel
theorem dX8_readOrder_286 : decode cX8_readOrder 286 = .ok (.iconst 2, 1) := by decide +kernel
theorem dX8_readOrder_287 : decode cX8_readOrder 287 = .ok (.aload_n 0, 1) := by decide +kernel
theorem dX8_readOrder_288 : decode cX8_readOrder 288 = .ok (.bipush 61, 2) := by decide +kernel
theorem dX8_readOrder_290 : decode cX8_readOrder 290 = .ok (.invokevirtual 232, 3) := by decide +kernel
theorem dX8_readOrder_293 : decode cX8_readOrder 293 = .ok (.iastore, 1) := by decide +kernel
theorem dX8_readOrder_294 : decode cX8_readOrder 294 = .ok (.goto 68, 3) := by decide +kernel
theorem dX8_readOrder_297 : decode cX8_readOrder 297 = .ok (.iload_n 1, 1) := by decide +kernel
theorem dX8_readOrder_298 : decode cX8_readOrder 298 = .ok (.bipush 99, 2) := by decide +kernel
theorem dX8_readOrder_300 : decode cX8_readOrder 300 = .ok (.if_icmp .eq 9, 3) := by decide +kernel
theorem dX8_readOrder_303 : decode cX8_readOrder 303 = .ok (.iload_n 1, 1) := by decide +kernel
theorem dX8_readOrder_304 : decode cX8_readOrder 304 = .ok (.bipush 108, 2) := by decide +kernel
theorem dX8_readOrder_306 : decode cX8_readOrder 306 = .ok (.if_icmp .ne 56, 3) := by decide +kernel
theorem dX8_readOrder_309 : decode cX8_readOrder 309 = .ok (.aload_n 0, 1) := by decide +kernel
theorem dX8_readOrder_310 : decode cX8_readOrder 310 = .ok (.bipush 46, 2) := by decide +kernel
theorem dX8_readOrder_312 : decode cX8_readOrder 312 = .ok (.bipush 46, 2) := by decide +kernel
theorem dX8_readOrder_314 : decode cX8_readOrder 314 = .ok (.invokevirtual 223, 3) := by decide +kernel
theorem dX8_readOrder_317 : decode cX8_readOrder 317 = .ok (.istore 4, 2) := by decide +kernel
theorem dX8_readOrder_319 : decode cX8_readOrder 319 = .ok (.aload_n 0, 1) := by decide +kernel
theorem dX8_readOrder_320 : decode cX8_readOrder 320 = .ok (.getfield 32, 3) := by decide +kernel
theorem dX8_readOrder_323 : decode cX8_readOrder 323 = .ok (.iconst 2, 1) := by decide +kernel
theorem dX8_readOrder_324 : decode cX8_readOrder 324 = .ok (.aload_n 0, 1) := by decide +kernel
theorem dX8_readOrder_325 : decode cX8_readOrder 325 = .ok (.bipush 48, 2) := by decide +kernel
theorem dX8_readOrder_327 : decode cX8_readOrder 327 = .ok (.bipush 57, 2) := by decide +kernel
theorem dX8_readOrder_329 : decode cX8_readOrder 329 = .ok (.invokevirtual 223, 3) := by decide +kernel
theorem dX8_readOrder_332 : decode cX8_readOrder 332 = .ok (.iastore, 1) := by decide +kernel
theorem dX8_readOrder_333 : decode cX8_readOrder 333 = .ok (.aload_n 0, 1) := by decide +kernel
theorem dX8_readOrder_334 : decode cX8_readOrder 334 = .ok (.getfield 32, 3) := by decide +kernel
theorem dX8_readOrder_337 : decode cX8_readOrder 337 = .ok (.iconst 3, 1) := by decide +kernel
theorem dX8_readOrder_338 : decode cX8_readOrder 338 = .ok (.iload_n 1, 1) := by decide +kernel
theorem dX8_readOrder_339 : decode cX8_readOrder 339 = .ok (.bipush 99, 2) := by decide +kernel
theorem dX8_readOrder_341 : decode cX8_readOrder 341 = .ok (.if_icmp .ne 12, 3) := by decide +kernel
theorem dX8_readOrder_344 : decode cX8_readOrder 344 = .ok (.aload_n 0, 1) := by decide +kernel
theorem dX8_readOrder_345 : decode cX8_readOrder 345 = .ok (.bipush 64, 2) := by decide +kernel
theorem dX8_readOrder_347 : decode cX8_readOrder 347 = .ok (.invokevirtual 232, 3) := by decide +kernel
theorem dX8_readOrder_350 : decode cX8_readOrder 350 = .ok (.goto 11, 3) := by decide +kernel
theorem dX8_readOrder_353 : decode cX8_readOrder 353 = .ok (.aload_n 0, 1) := by decide +kernel
theorem dX8_readOrder_354 : decode cX8_readOrder 354 = .ok (.bipush 48, 2) := by decide +kernel
theorem dX8_readOrder_356 : decode cX8_readOrder 356 = .ok (.bipush 57, 2) := by decide +kernel
theorem dX8_readOrder_358 : decode cX8_readOrder 358 = .ok (.invokevirtual 223, 3) := by decide +kernel
theorem dX8_readOrder_361 : decode cX8_readOrder 361 = .ok (.iastore, 1) := by decide +kernel
theorem dX8_readOrder_362 : decode cX8_readOrder 362 = .ok (.return_, 1) := by decide +kernel
theorem dX8_goes_0 : decode cX8_goes 0 = .ok (.aload_n 0, 1) := by decide +kernel
theorem dX8_goes_1 : decode cX8_goes 1 = .ok (.iconst 0, 1) := by decide +kernel
theorem dX8_goes_2 : decode cX8_goes 2 = .ok (.putfield 220, 3) := by decide +kernel
theorem dX8_goes_5 : decode cX8_goes 5 = .ok (.aload_n 0, 1) := by decide +kernel
theorem dX8_goes_6 : decode cX8_goes 6 = .ok (.iconst 0, 1) := by decide +kernel
theorem dX8_goes_7 : decode cX8_goes 7 = .ok (.putfield 216, 3) := by decide +kernel
theorem dX8_goes_10 : decode cX8_goes 10 = .ok (.iconst 0, 1) := by decide +kernel
theorem dX8_goes_11 : decode cX8_goes 11 = .ok (.istore_n 2, 1) := by decide +kernel
theorem dX8_goes_12 : decode cX8_goes 12 = .ok (.iconst 1, 1) := by decide +kernel
theorem dX8_goes_13 : decode cX8_goes 13 = .ok (.istore_n 3, 1) := by decide +kernel
theorem dX8_goes_14 : decode cX8_goes 14 = .ok (.iload_n 3, 1) := by decide +kernel
theorem dX8_goes_15 : decode cX8_goes 15 = .ok (.ifCond .eq 127, 3) := by decide +kernel
theorem dX8_goes_18 : decode cX8_goes 18 = .ok (.aload_n 0, 1) := by decide +kernel
theorem dX8_goes_19 : decode cX8_goes 19 = .ok (.invokevirtual 235, 3) := by decide +kernel
theorem dX8_goes_22 : decode cX8_goes 22 = .ok (.iload_n 1, 1) := by decide +kernel
theorem dX8_goes_23 : decode cX8_goes 23 = .ok (.ifCond .eq 40, 3) := by decide +kernel
theorem dX8_goes_26 : decode cX8_goes 26 = .ok (.aload_n 0, 1) := by decide +kernel
theorem dX8_goes_27 : decode cX8_goes 27 = .ok (.aload_n 0, 1) := by decide +kernel
theorem dX8_goes_28 : decode cX8_goes 28 = .ok (.getfield 32, 3) := by decide +kernel
theorem dX8_goes_31 : decode cX8_goes 31 = .ok (.iconst 0, 1) := by decide +kernel
theorem dX8_goes_32 : decode cX8_goes 32 = .ok (.iaload, 1) := by decide +kernel
theorem dX8_goes_33 : decode cX8_goes 33 = .ok (.aload_n 0, 1) := by decide +kernel
theorem dX8_goes_34 : decode cX8_goes 34 = .ok (.getfield 32, 3) := by decide +kernel
theorem dX8_goes_37 : decode cX8_goes 37 = .ok (.iconst 1, 1) := by decide +kernel
theorem dX8_goes_38 : decode cX8_goes 38 = .ok (.iaload, 1) := by decide +kernel
theorem dX8_goes_39 : decode cX8_goes 39 = .ok (.aload_n 0, 1) := by decide +kernel
theorem dX8_goes_40 : decode cX8_goes 40 = .ok (.getfield 32, 3) := by decide +kernel
theorem dX8_goes_43 : decode cX8_goes 43 = .ok (.iconst 2, 1) := by decide +kernel
theorem dX8_goes_44 : decode cX8_goes 44 = .ok (.iaload, 1) := by decide +kernel
theorem dX8_goes_45 : decode cX8_goes 45 = .ok (.aload_n 0, 1) := by decide +kernel
theorem dX8_goes_46 : decode cX8_goes 46 = .ok (.getfield 32, 3) := by decide +kernel
theorem dX8_goes_49 : decode cX8_goes 49 = .ok (.iconst 3, 1) := by decide +kernel
theorem dX8_goes_50 : decode cX8_goes 50 = .ok (.iaload, 1) := by decide +kernel
theorem dX8_goes_51 : decode cX8_goes 51 = .ok (.aload_n 0, 1) := by decide +kernel
theorem dX8_goes_52 : decode cX8_goes 52 = .ok (.getfield 32, 3) := by decide +kernel
theorem dX8_goes_55 : decode cX8_goes 55 = .ok (.iconst 4, 1) := by decide +kernel
theorem dX8_goes_56 : decode cX8_goes 56 = .ok (.iaload, 1) := by decide +kernel
theorem dX8_goes_57 : decode cX8_goes 57 = .ok (.invokevirtual 159, 3) := by decide +kernel
theorem dX8_goes_60 : decode cX8_goes 60 = .ok (.ifCond .lt 7, 3) := by decide +kernel
theorem dX8_goes_63 : decode cX8_goes 63 = .ok (.iconst 1, 1) := by decide +kernel
theorem dX8_goes_64 : decode cX8_goes 64 = .ok (.goto 4, 3) := by decide +kernel
theorem dX8_goes_67 : decode cX8_goes 67 = .ok (.iconst 0, 1) := by decide +kernel
theorem dX8_goes_68 : decode cX8_goes 68 = .ok (.istore 4, 2) := by decide +kernel
theorem dX8_goes_70 : decode cX8_goes 70 = .ok (.iload_n 2, 1) := by decide +kernel
theorem dX8_goes_71 : decode cX8_goes 71 = .ok (.iload 4, 2) := by decide +kernel
theorem dX8_goes_73 : decode cX8_goes 73 = .ok (.ifCond .eq 7, 3) := by decide +kernel
theorem dX8_goes_76 : decode cX8_goes 76 = .ok (.iconst 1, 1) := by decide +kernel
theorem dX8_goes_77 : decode cX8_goes 77 = .ok (.goto 4, 3) := by decide +kernel
theorem dX8_goes_80 : decode cX8_goes 80 = .ok (.iconst 0, 1) := by decide +kernel
theorem dX8_goes_81 : decode cX8_goes 81 = .ok (.iadd, 1) := by decide +kernel
theorem dX8_goes_82 : decode cX8_goes 82 = .ok (.istore_n 2, 1) := by decide +kernel
theorem dX8_goes_83 : decode cX8_goes 83 = .ok (.iload 4, 2) := by decide +kernel
theorem dX8_goes_85 : decode cX8_goes 85 = .ok (.ifCond .eq 25, 3) := by decide +kernel
theorem dX8_goes_88 : decode cX8_goes 88 = .ok (.aload_n 0, 1) := by decide +kernel
theorem dX8_goes_89 : decode cX8_goes 89 = .ok (.getfield 216, 3) := by decide +kernel
theorem dX8_goes_92 : decode cX8_goes 92 = .ok (.ifCond .ne 18, 3) := by decide +kernel
theorem dX8_goes_95 : decode cX8_goes 95 = .ok (.aload_n 0, 1) := by decide +kernel
theorem dX8_goes_96 : decode cX8_goes 96 = .ok (.getfield 220, 3) := by decide +kernel
theorem dX8_goes_99 : decode cX8_goes 99 = .ok (.aload_n 0, 1) := by decide +kernel
theorem dX8_goes_100 : decode cX8_goes 100 = .ok (.getfield 189, 3) := by decide +kernel
theorem dX8_goes_103 : decode cX8_goes 103 = .ok (.if_icmp .ge 7, 3) := by decide +kernel
theorem dX8_goes_106 : decode cX8_goes 106 = .ok (.iconst 1, 1) := by decide +kernel
theorem dX8_goes_107 : decode cX8_goes 107 = .ok (.goto 4, 3) := by decide +kernel
theorem dX8_goes_110 : decode cX8_goes 110 = .ok (.iconst 0, 1) := by decide +kernel
theorem dX8_goes_111 : decode cX8_goes 111 = .ok (.istore_n 3, 1) := by decide +kernel
theorem dX8_goes_112 : decode cX8_goes 112 = .ok (.iload_n 3, 1) := by decide +kernel
theorem dX8_goes_113 : decode cX8_goes 113 = .ok (.ifCond .eq 26, 3) := by decide +kernel
theorem dX8_goes_116 : decode cX8_goes 116 = .ok (.aload_n 0, 1) := by decide +kernel
theorem dX8_goes_117 : decode cX8_goes 117 = .ok (.bipush 59, 2) := by decide +kernel
theorem dX8_goes_119 : decode cX8_goes 119 = .ok (.bipush 59, 2) := by decide +kernel
theorem dX8_goes_121 : decode cX8_goes 121 = .ok (.invokevirtual 223, 3) := by decide +kernel
theorem dX8_goes_124 : decode cX8_goes 124 = .ok (.istore 5, 2) := by decide +kernel
theorem dX8_goes_126 : decode cX8_goes 126 = .ok (.aload_n 0, 1) := by decide +kernel
theorem dX8_goes_127 : decode cX8_goes 127 = .ok (.getfield 216, 3) := by decide +kernel
theorem dX8_goes_130 : decode cX8_goes 130 = .ok (.ifCond .ne 7, 3) := by decide +kernel
theorem dX8_goes_133 : decode cX8_goes 133 = .ok (.iconst 1, 1) := by decide +kernel
theorem dX8_goes_134 : decode cX8_goes 134 = .ok (.goto 4, 3) := by decide +kernel
theorem dX8_goes_137 : decode cX8_goes 137 = .ok (.iconst 0, 1) := by decide +kernel
theorem dX8_goes_138 : decode cX8_goes 138 = .ok (.istore_n 3, 1) := by decide +kernel
theorem dX8_goes_139 : decode cX8_goes 139 = .ok (.goto (-125), 3) := by decide +kernel
theorem dX8_goes_142 : decode cX8_goes 142 = .ok (.iload_n 2, 1) := by decide +kernel
theorem dX8_goes_143 : decode cX8_goes 143 = .ok (.ireturn, 1) := by decide +kernel
theorem dX8_fault_0 : decode cX8_fault 0 = .ok (.aload_n 0, 1) := by decide +kernel
theorem dX8_fault_1 : decode cX8_fault 1 = .ok (.iconst 0, 1) := by decide +kernel
theorem dX8_fault_2 : decode cX8_fault 2 = .ok (.invokevirtual 238, 3) := by decide +kernel
theorem dX8_fault_5 : decode cX8_fault 5 = .ok (.istore_n 1, 1) := by decide +kernel
theorem dX8_fault_6 : decode cX8_fault 6 = .ok (.aload_n 0, 1) := by decide +kernel
theorem dX8_fault_7 : decode cX8_fault 7 = .ok (.getfield 216, 3) := by decide +kernel
theorem dX8_fault_10 : decode cX8_fault 10 = .ok (.ifCond .eq 10, 3) := by decide +kernel
theorem dX8_fault_13 : decode cX8_fault 13 = .ok (.aload_n 0, 1) := by decide +kernel
theorem dX8_fault_14 : decode cX8_fault 14 = .ok (.getfield 220, 3) := by decide +kernel
theorem dX8_fault_17 : decode cX8_fault 17 = .ok (.goto 5, 3) := by decide +kernel
theorem dX8_fault_20 : decode cX8_fault 20 = .ok (.bipush (-6), 2) := by decide +kernel
theorem dX8_fault_22 : decode cX8_fault 22 = .ok (.ireturn, 1) := by decide +kernel
theorem dX8_carryOut_0 : decode cX8_carryOut 0 = .ok (.aload_n 0, 1) := by decide +kernel
theorem dX8_carryOut_1 : decode cX8_carryOut 1 = .ok (.iconst 0, 1) := by decide +kernel
theorem dX8_carryOut_2 : decode cX8_carryOut 2 = .ok (.invokevirtual 238, 3) := by decide +kernel
theorem dX8_carryOut_5 : decode cX8_carryOut 5 = .ok (.istore_n 1, 1) := by decide +kernel
theorem dX8_carryOut_6 : decode cX8_carryOut 6 = .ok (.aload_n 0, 1) := by decide +kernel
theorem dX8_carryOut_7 : decode cX8_carryOut 7 = .ok (.getfield 216, 3) := by decide +kernel
theorem dX8_carryOut_10 : decode cX8_carryOut 10 = .ok (.ifCond .eq 6, 3) := by decide +kernel
theorem dX8_carryOut_13 : decode cX8_carryOut 13 = .ok (.bipush (-3), 2) := by decide +kernel
theorem dX8_carryOut_15 : decode cX8_carryOut 15 = .ok (.ireturn, 1) := by decide +kernel
theorem dX8_carryOut_16 : decode cX8_carryOut 16 = .ok (.aload_n 0, 1) := by decide +kernel
theorem dX8_carryOut_17 : decode cX8_carryOut 17 = .ok (.invokevirtual 156, 3) := by decide +kernel
theorem dX8_carryOut_20 : decode cX8_carryOut 20 = .ok (.aload_n 0, 1) := by decide +kernel
theorem dX8_carryOut_21 : decode cX8_carryOut 21 = .ok (.invokevirtual 163, 3) := by decide +kernel
theorem dX8_carryOut_24 : decode cX8_carryOut 24 = .ok (.aload_n 0, 1) := by decide +kernel
theorem dX8_carryOut_25 : decode cX8_carryOut 25 = .ok (.iconst 1, 1) := by decide +kernel
theorem dX8_carryOut_26 : decode cX8_carryOut 26 = .ok (.invokevirtual 238, 3) := by decide +kernel
theorem dX8_carryOut_29 : decode cX8_carryOut 29 = .ok (.istore_n 2, 1) := by decide +kernel
theorem dX8_carryOut_30 : decode cX8_carryOut 30 = .ok (.aload_n 0, 1) := by decide +kernel
theorem dX8_carryOut_31 : decode cX8_carryOut 31 = .ok (.iconst 0, 1) := by decide +kernel
theorem dX8_carryOut_32 : decode cX8_carryOut 32 = .ok (.putfield 189, 3) := by decide +kernel
theorem dX8_carryOut_35 : decode cX8_carryOut 35 = .ok (.iload_n 2, 1) := by decide +kernel
theorem dX8_carryOut_36 : decode cX8_carryOut 36 = .ok (.ireturn, 1) := by decide +kernel
theorem dX8_undo_0 : decode cX8_undo 0 = .ok (.aload_n 0, 1) := by decide +kernel
theorem dX8_undo_1 : decode cX8_undo 1 = .ok (.getfield 43, 3) := by decide +kernel
theorem dX8_undo_4 : decode cX8_undo 4 = .ok (.ifCond .ne 6, 3) := by decide +kernel
theorem dX8_undo_7 : decode cX8_undo 7 = .ok (.bipush (-5), 2) := by decide +kernel
theorem dX8_undo_9 : decode cX8_undo 9 = .ok (.ireturn, 1) := by decide +kernel
theorem dX8_undo_10 : decode cX8_undo 10 = .ok (.aload_n 0, 1) := by decide +kernel
theorem dX8_undo_11 : decode cX8_undo 11 = .ok (.dup, 1) := by decide +kernel
theorem dX8_undo_12 : decode cX8_undo 12 = .ok (.getfield 43, 3) := by decide +kernel
theorem dX8_undo_15 : decode cX8_undo 15 = .ok (.iconst 1, 1) := by decide +kernel
theorem dX8_undo_16 : decode cX8_undo 16 = .ok (.isub, 1) := by decide +kernel
theorem dX8_undo_17 : decode cX8_undo 17 = .ok (.putfield 43, 3) := by decide +kernel
theorem dX8_undo_20 : decode cX8_undo 20 = .ok (.iconst 0, 1) := by decide +kernel
theorem dX8_undo_21 : decode cX8_undo 21 = .ok (.istore_n 1, 1) := by decide +kernel
theorem dX8_undo_22 : decode cX8_undo 22 = .ok (.iload_n 1, 1) := by decide +kernel
theorem dX8_undo_23 : decode cX8_undo 23 = .ok (.sipush 324, 3) := by decide +kernel
theorem dX8_undo_26 : decode cX8_undo 26 = .ok (.if_icmp .ge 30, 3) := by decide +kernel
theorem dX8_undo_29 : decode cX8_undo 29 = .ok (.aload_n 0, 1) := by decide +kernel
theorem dX8_undo_30 : decode cX8_undo 30 = .ok (.getfield 7, 3) := by decide +kernel
theorem dX8_undo_33 : decode cX8_undo 33 = .ok (.iload_n 1, 1) := by decide +kernel
theorem dX8_undo_34 : decode cX8_undo 34 = .ok (.aload_n 0, 1) := by decide +kernel
theorem dX8_undo_35 : decode cX8_undo 35 = .ok (.getfield 16, 3) := by decide +kernel
theorem dX8_undo_38 : decode cX8_undo 38 = .ok (.sipush 324, 3) := by decide +kernel
theorem dX8_undo_41 : decode cX8_undo 41 = .ok (.aload_n 0, 1) := by decide +kernel
theorem dX8_undo_42 : decode cX8_undo 42 = .ok (.getfield 43, 3) := by decide +kernel
theorem dX8_undo_45 : decode cX8_undo 45 = .ok (.imul, 1) := by decide +kernel
theorem dX8_undo_46 : decode cX8_undo 46 = .ok (.iload_n 1, 1) := by decide +kernel
theorem dX8_undo_47 : decode cX8_undo 47 = .ok (.iadd, 1) := by decide +kernel
theorem dX8_undo_48 : decode cX8_undo 48 = .ok (.iaload, 1) := by decide +kernel
theorem dX8_undo_49 : decode cX8_undo 49 = .ok (.iastore, 1) := by decide +kernel
theorem dX8_undo_50 : decode cX8_undo 50 = .ok (.iinc 1 1, 3) := by decide +kernel
theorem dX8_undo_53 : decode cX8_undo 53 = .ok (.goto (-31), 3) := by decide +kernel
theorem dX8_undo_56 : decode cX8_undo 56 = .ok (.aload_n 0, 1) := by decide +kernel
theorem dX8_undo_57 : decode cX8_undo 57 = .ok (.getfield 43, 3) := by decide +kernel
theorem dX8_undo_60 : decode cX8_undo 60 = .ok (.ireturn, 1) := by decide +kernel
theorem dX8_save_0 : decode cX8_save 0 = .ok (.iload_n 1, 1) := by decide +kernel
theorem dX8_save_1 : decode cX8_save 1 = .ok (.iconst 0, 1) := by decide +kernel
theorem dX8_save_2 : decode cX8_save 2 = .ok (.iconst 1, 1) := by decide +kernel
theorem dX8_save_3 : decode cX8_save 3 = .ok (.invokestatic 39, 3) := by decide +kernel
theorem dX8_save_6 : decode cX8_save 6 = .ok (.ifCond .ne 6, 3) := by decide +kernel
theorem dX8_save_9 : decode cX8_save 9 = .ok (.bipush (-2), 2) := by decide +kernel
theorem dX8_save_11 : decode cX8_save 11 = .ok (.ireturn, 1) := by decide +kernel
theorem dX8_save_12 : decode cX8_save 12 = .ok (.iconst 0, 1) := by decide +kernel
theorem dX8_save_13 : decode cX8_save 13 = .ok (.istore_n 2, 1) := by decide +kernel
theorem dX8_save_14 : decode cX8_save 14 = .ok (.iload_n 2, 1) := by decide +kernel
theorem dX8_save_15 : decode cX8_save 15 = .ok (.sipush 324, 3) := by decide +kernel
theorem dX8_save_18 : decode cX8_save 18 = .ok (.if_icmp .ge 27, 3) := by decide +kernel
theorem dX8_save_21 : decode cX8_save 21 = .ok (.aload_n 0, 1) := by decide +kernel
theorem dX8_save_22 : decode cX8_save 22 = .ok (.getfield 19, 3) := by decide +kernel
theorem dX8_save_25 : decode cX8_save 25 = .ok (.sipush 324, 3) := by decide +kernel
theorem dX8_save_28 : decode cX8_save 28 = .ok (.iload_n 1, 1) := by decide +kernel
theorem dX8_save_29 : decode cX8_save 29 = .ok (.imul, 1) := by decide +kernel
theorem dX8_save_30 : decode cX8_save 30 = .ok (.iload_n 2, 1) := by decide +kernel
theorem dX8_save_31 : decode cX8_save 31 = .ok (.iadd, 1) := by decide +kernel
theorem dX8_save_32 : decode cX8_save 32 = .ok (.aload_n 0, 1) := by decide +kernel
theorem dX8_save_33 : decode cX8_save 33 = .ok (.getfield 7, 3) := by decide +kernel
theorem dX8_save_36 : decode cX8_save 36 = .ok (.iload_n 2, 1) := by decide +kernel
theorem dX8_save_37 : decode cX8_save 37 = .ok (.iaload, 1) := by decide +kernel
theorem dX8_save_38 : decode cX8_save 38 = .ok (.iastore, 1) := by decide +kernel
theorem dX8_save_39 : decode cX8_save 39 = .ok (.iinc 2 1, 3) := by decide +kernel
theorem dX8_save_42 : decode cX8_save 42 = .ok (.goto (-28), 3) := by decide +kernel
theorem dX8_save_45 : decode cX8_save 45 = .ok (.aload_n 0, 1) := by decide +kernel
theorem dX8_save_46 : decode cX8_save 46 = .ok (.getfield 22, 3) := by decide +kernel
theorem dX8_save_49 : decode cX8_save 49 = .ok (.iload_n 1, 1) := by decide +kernel
theorem dX8_save_50 : decode cX8_save 50 = .ok (.iconst 1, 1) := by decide +kernel
theorem dX8_save_51 : decode cX8_save 51 = .ok (.bastore, 1) := by decide +kernel
theorem dX8_save_52 : decode cX8_save 52 = .ok (.aload_n 0, 1) := by decide +kernel
theorem dX8_save_53 : decode cX8_save 53 = .ok (.getfield 7, 3) := by decide +kernel
theorem dX8_save_56 : decode cX8_save 56 = .ok (.iconst 5, 1) := by decide +kernel
theorem dX8_save_57 : decode cX8_save 57 = .ok (.iaload, 1) := by decide +kernel
theorem dX8_save_58 : decode cX8_save 58 = .ok (.ireturn, 1) := by decide +kernel
theorem dX8_restore_0 : decode cX8_restore 0 = .ok (.iload_n 1, 1) := by decide +kernel
theorem dX8_restore_1 : decode cX8_restore 1 = .ok (.iconst 0, 1) := by decide +kernel
theorem dX8_restore_2 : decode cX8_restore 2 = .ok (.iconst 1, 1) := by decide +kernel
theorem dX8_restore_3 : decode cX8_restore 3 = .ok (.invokestatic 39, 3) := by decide +kernel
theorem dX8_restore_6 : decode cX8_restore 6 = .ok (.ifCond .ne 6, 3) := by decide +kernel
theorem dX8_restore_9 : decode cX8_restore 9 = .ok (.bipush (-2), 2) := by decide +kernel
theorem dX8_restore_11 : decode cX8_restore 11 = .ok (.ireturn, 1) := by decide +kernel
theorem dX8_restore_12 : decode cX8_restore 12 = .ok (.aload_n 0, 1) := by decide +kernel
theorem dX8_restore_13 : decode cX8_restore 13 = .ok (.getfield 22, 3) := by decide +kernel
theorem dX8_restore_16 : decode cX8_restore 16 = .ok (.iload_n 1, 1) := by decide +kernel
theorem dX8_restore_17 : decode cX8_restore 17 = .ok (.baload, 1) := by decide +kernel
theorem dX8_restore_18 : decode cX8_restore 18 = .ok (.ifCond .ne 6, 3) := by decide +kernel
theorem dX8_restore_21 : decode cX8_restore 21 = .ok (.bipush (-5), 2) := by decide +kernel
theorem dX8_restore_23 : decode cX8_restore 23 = .ok (.ireturn, 1) := by decide +kernel
theorem dX8_restore_24 : decode cX8_restore 24 = .ok (.aload_n 0, 1) := by decide +kernel
theorem dX8_restore_25 : decode cX8_restore 25 = .ok (.invokevirtual 156, 3) := by decide +kernel
theorem dX8_restore_28 : decode cX8_restore 28 = .ok (.aload_n 0, 1) := by decide +kernel
theorem dX8_restore_29 : decode cX8_restore 29 = .ok (.invokevirtual 163, 3) := by decide +kernel
theorem dX8_restore_32 : decode cX8_restore 32 = .ok (.iconst 0, 1) := by decide +kernel
theorem dX8_restore_33 : decode cX8_restore 33 = .ok (.istore_n 2, 1) := by decide +kernel
theorem dX8_restore_34 : decode cX8_restore 34 = .ok (.iload_n 2, 1) := by decide +kernel
theorem dX8_restore_35 : decode cX8_restore 35 = .ok (.sipush 324, 3) := by decide +kernel
theorem dX8_restore_38 : decode cX8_restore 38 = .ok (.if_icmp .ge 27, 3) := by decide +kernel
theorem dX8_restore_41 : decode cX8_restore 41 = .ok (.aload_n 0, 1) := by decide +kernel
theorem dX8_restore_42 : decode cX8_restore 42 = .ok (.getfield 7, 3) := by decide +kernel
theorem dX8_restore_45 : decode cX8_restore 45 = .ok (.iload_n 2, 1) := by decide +kernel
theorem dX8_restore_46 : decode cX8_restore 46 = .ok (.aload_n 0, 1) := by decide +kernel
theorem dX8_restore_47 : decode cX8_restore 47 = .ok (.getfield 19, 3) := by decide +kernel
theorem dX8_restore_50 : decode cX8_restore 50 = .ok (.sipush 324, 3) := by decide +kernel
theorem dX8_restore_53 : decode cX8_restore 53 = .ok (.iload_n 1, 1) := by decide +kernel
theorem dX8_restore_54 : decode cX8_restore 54 = .ok (.imul, 1) := by decide +kernel
theorem dX8_restore_55 : decode cX8_restore 55 = .ok (.iload_n 2, 1) := by decide +kernel
theorem dX8_restore_56 : decode cX8_restore 56 = .ok (.iadd, 1) := by decide +kernel
theorem dX8_restore_57 : decode cX8_restore 57 = .ok (.iaload, 1) := by decide +kernel
theorem dX8_restore_58 : decode cX8_restore 58 = .ok (.iastore, 1) := by decide +kernel
theorem dX8_restore_59 : decode cX8_restore 59 = .ok (.iinc 2 1, 3) := by decide +kernel
theorem dX8_restore_62 : decode cX8_restore 62 = .ok (.goto (-28), 3) := by decide +kernel
theorem dX8_restore_65 : decode cX8_restore 65 = .ok (.aload_n 0, 1) := by decide +kernel
theorem dX8_restore_66 : decode cX8_restore 66 = .ok (.getfield 7, 3) := by decide +kernel
theorem dX8_restore_69 : decode cX8_restore 69 = .ok (.iconst 5, 1) := by decide +kernel
theorem dX8_restore_70 : decode cX8_restore 70 = .ok (.iaload, 1) := by decide +kernel
theorem dX8_restore_71 : decode cX8_restore 71 = .ok (.ireturn, 1) := by decide +kernel
theorem dJ6_bitCount_0f7a4_0 : decode cJ6_bitCount_0f7a4 0 = .ok (.iload_n 0, 1) := by decide +kernel
theorem dJ6_bitCount_0f7a4_1 : decode cJ6_bitCount_0f7a4 1 = .ok (.iload_n 0, 1) := by decide +kernel
theorem dJ6_bitCount_0f7a4_2 : decode cJ6_bitCount_0f7a4 2 = .ok (.iconst 1, 1) := by decide +kernel
theorem dJ6_bitCount_0f7a4_3 : decode cJ6_bitCount_0f7a4 3 = .ok (.iushr, 1) := by decide +kernel
theorem dJ6_bitCount_0f7a4_4 : decode cJ6_bitCount_0f7a4 4 = .ok (.ldc_w 265, 3) := by decide +kernel
theorem dJ6_bitCount_0f7a4_7 : decode cJ6_bitCount_0f7a4 7 = .ok (.iand, 1) := by decide +kernel
theorem dJ6_bitCount_0f7a4_8 : decode cJ6_bitCount_0f7a4 8 = .ok (.isub, 1) := by decide +kernel
theorem dJ6_bitCount_0f7a4_9 : decode cJ6_bitCount_0f7a4 9 = .ok (.istore_n 0, 1) := by decide +kernel
theorem dJ6_bitCount_0f7a4_10 : decode cJ6_bitCount_0f7a4 10 = .ok (.iload_n 0, 1) := by decide +kernel
theorem dJ6_bitCount_0f7a4_11 : decode cJ6_bitCount_0f7a4 11 = .ok (.ldc_w 266, 3) := by decide +kernel
theorem dJ6_bitCount_0f7a4_14 : decode cJ6_bitCount_0f7a4 14 = .ok (.iand, 1) := by decide +kernel
theorem dJ6_bitCount_0f7a4_15 : decode cJ6_bitCount_0f7a4 15 = .ok (.iload_n 0, 1) := by decide +kernel
theorem dJ6_bitCount_0f7a4_16 : decode cJ6_bitCount_0f7a4 16 = .ok (.iconst 2, 1) := by decide +kernel
theorem dJ6_bitCount_0f7a4_17 : decode cJ6_bitCount_0f7a4 17 = .ok (.iushr, 1) := by decide +kernel
theorem dJ6_bitCount_0f7a4_18 : decode cJ6_bitCount_0f7a4 18 = .ok (.ldc_w 266, 3) := by decide +kernel
theorem dJ6_bitCount_0f7a4_21 : decode cJ6_bitCount_0f7a4 21 = .ok (.iand, 1) := by decide +kernel
theorem dJ6_bitCount_0f7a4_22 : decode cJ6_bitCount_0f7a4 22 = .ok (.iadd, 1) := by decide +kernel
theorem dJ6_bitCount_0f7a4_23 : decode cJ6_bitCount_0f7a4 23 = .ok (.istore_n 0, 1) := by decide +kernel
theorem dJ6_bitCount_0f7a4_24 : decode cJ6_bitCount_0f7a4 24 = .ok (.iload_n 0, 1) := by decide +kernel
theorem dJ6_bitCount_0f7a4_25 : decode cJ6_bitCount_0f7a4 25 = .ok (.iload_n 0, 1) := by decide +kernel
theorem dJ6_bitCount_0f7a4_26 : decode cJ6_bitCount_0f7a4 26 = .ok (.iconst 4, 1) := by decide +kernel
theorem dJ6_bitCount_0f7a4_27 : decode cJ6_bitCount_0f7a4 27 = .ok (.iushr, 1) := by decide +kernel
theorem dJ6_bitCount_0f7a4_28 : decode cJ6_bitCount_0f7a4 28 = .ok (.iadd, 1) := by decide +kernel
theorem dJ6_bitCount_0f7a4_29 : decode cJ6_bitCount_0f7a4 29 = .ok (.ldc_w 267, 3) := by decide +kernel
theorem dJ6_bitCount_0f7a4_32 : decode cJ6_bitCount_0f7a4 32 = .ok (.iand, 1) := by decide +kernel
theorem dJ6_bitCount_0f7a4_33 : decode cJ6_bitCount_0f7a4 33 = .ok (.istore_n 0, 1) := by decide +kernel
theorem dJ6_bitCount_0f7a4_34 : decode cJ6_bitCount_0f7a4 34 = .ok (.iload_n 0, 1) := by decide +kernel
theorem dJ6_bitCount_0f7a4_35 : decode cJ6_bitCount_0f7a4 35 = .ok (.iload_n 0, 1) := by decide +kernel
theorem dJ6_bitCount_0f7a4_36 : decode cJ6_bitCount_0f7a4 36 = .ok (.bipush 8, 2) := by decide +kernel
theorem dJ6_bitCount_0f7a4_38 : decode cJ6_bitCount_0f7a4 38 = .ok (.iushr, 1) := by decide +kernel
theorem dJ6_bitCount_0f7a4_39 : decode cJ6_bitCount_0f7a4 39 = .ok (.iadd, 1) := by decide +kernel
theorem dJ6_bitCount_0f7a4_40 : decode cJ6_bitCount_0f7a4 40 = .ok (.istore_n 0, 1) := by decide +kernel
theorem dJ6_bitCount_0f7a4_41 : decode cJ6_bitCount_0f7a4 41 = .ok (.iload_n 0, 1) := by decide +kernel
theorem dJ6_bitCount_0f7a4_42 : decode cJ6_bitCount_0f7a4 42 = .ok (.iload_n 0, 1) := by decide +kernel
theorem dJ6_bitCount_0f7a4_43 : decode cJ6_bitCount_0f7a4 43 = .ok (.bipush 16, 2) := by decide +kernel
theorem dJ6_bitCount_0f7a4_45 : decode cJ6_bitCount_0f7a4 45 = .ok (.iushr, 1) := by decide +kernel
theorem dJ6_bitCount_0f7a4_46 : decode cJ6_bitCount_0f7a4 46 = .ok (.iadd, 1) := by decide +kernel
theorem dJ6_bitCount_0f7a4_47 : decode cJ6_bitCount_0f7a4 47 = .ok (.istore_n 0, 1) := by decide +kernel
theorem dJ6_bitCount_0f7a4_48 : decode cJ6_bitCount_0f7a4 48 = .ok (.iload_n 0, 1) := by decide +kernel
theorem dJ6_bitCount_0f7a4_49 : decode cJ6_bitCount_0f7a4 49 = .ok (.bipush 63, 2) := by decide +kernel
theorem dJ6_bitCount_0f7a4_51 : decode cJ6_bitCount_0f7a4 51 = .ok (.iand, 1) := by decide +kernel
theorem dJ6_bitCount_0f7a4_52 : decode cJ6_bitCount_0f7a4 52 = .ok (.ireturn, 1) := by decide +kernel
theorem dJ9_max_7cf53_0 : decode cJ9_max_7cf53 0 = .ok (.iload_n 0, 1) := by decide +kernel
theorem dJ9_max_7cf53_1 : decode cJ9_max_7cf53 1 = .ok (.iload_n 1, 1) := by decide +kernel
theorem dJ9_max_7cf53_2 : decode cJ9_max_7cf53 2 = .ok (.if_icmp .lt 7, 3) := by decide +kernel
theorem dJ9_max_7cf53_5 : decode cJ9_max_7cf53 5 = .ok (.iload_n 0, 1) := by decide +kernel
theorem dJ9_max_7cf53_6 : decode cJ9_max_7cf53 6 = .ok (.goto 4, 3) := by decide +kernel
theorem dJ9_max_7cf53_9 : decode cJ9_max_7cf53 9 = .ok (.iload_n 1, 1) := by decide +kernel
theorem dJ9_max_7cf53_10 : decode cJ9_max_7cf53 10 = .ok (.ireturn, 1) := by decide +kernel
theorem dJ9_min_7cf53_0 : decode cJ9_min_7cf53 0 = .ok (.iload_n 0, 1) := by decide +kernel
theorem dJ9_min_7cf53_1 : decode cJ9_min_7cf53 1 = .ok (.iload_n 1, 1) := by decide +kernel
theorem dJ9_min_7cf53_2 : decode cJ9_min_7cf53 2 = .ok (.if_icmp .gt 7, 3) := by decide +kernel
theorem dJ9_min_7cf53_5 : decode cJ9_min_7cf53 5 = .ok (.iload_n 0, 1) := by decide +kernel
theorem dJ9_min_7cf53_6 : decode cJ9_min_7cf53 6 = .ok (.goto 4, 3) := by decide +kernel
theorem dJ9_min_7cf53_9 : decode cJ9_min_7cf53 9 = .ok (.iload_n 1, 1) := by decide +kernel
theorem dJ9_min_7cf53_10 : decode cJ9_min_7cf53 10 = .ok (.ireturn, 1) := by decide +kernel
theorem dJ0_length_8abf5_0 : decode cJ0_length_8abf5 0 = .ok (.aload_n 0, 1) := by decide +kernel
theorem dJ0_length_8abf5_1 : decode cJ0_length_8abf5 1 = .ok (.getfield 9, 3) := by decide +kernel
theorem dJ0_length_8abf5_4 : decode cJ0_length_8abf5 4 = .ok (.arraylength, 1) := by decide +kernel
theorem dJ0_length_8abf5_5 : decode cJ0_length_8abf5 5 = .ok (.aload_n 0, 1) := by decide +kernel
theorem dJ0_length_8abf5_6 : decode cJ0_length_8abf5 6 = .ok (.invokevirtual 335, 3) := by decide +kernel
theorem dJ0_length_8abf5_9 : decode cJ0_length_8abf5 9 = .ok (.ishr, 1) := by decide +kernel
theorem dJ0_length_8abf5_10 : decode cJ0_length_8abf5 10 = .ok (.ireturn, 1) := by decide +kernel
theorem dJ0_isEmpty_aae02_0 : decode cJ0_isEmpty_aae02 0 = .ok (.aload_n 0, 1) := by decide +kernel
theorem dJ0_isEmpty_aae02_1 : decode cJ0_isEmpty_aae02 1 = .ok (.getfield 9, 3) := by decide +kernel
theorem dJ0_isEmpty_aae02_4 : decode cJ0_isEmpty_aae02 4 = .ok (.arraylength, 1) := by decide +kernel
theorem dJ0_isEmpty_aae02_5 : decode cJ0_isEmpty_aae02 5 = .ok (.ifCond .ne 7, 3) := by decide +kernel
theorem dJ0_isEmpty_aae02_8 : decode cJ0_isEmpty_aae02 8 = .ok (.iconst 1, 1) := by decide +kernel
theorem dJ0_isEmpty_aae02_9 : decode cJ0_isEmpty_aae02 9 = .ok (.goto 4, 3) := by decide +kernel
theorem dJ0_isEmpty_aae02_12 : decode cJ0_isEmpty_aae02 12 = .ok (.iconst 0, 1) := by decide +kernel
theorem dJ0_isEmpty_aae02_13 : decode cJ0_isEmpty_aae02 13 = .ok (.ireturn, 1) := by decide +kernel
theorem dJ0_charAt_5068e_0 : decode cJ0_charAt_5068e 0 = .ok (.aload_n 0, 1) := by decide +kernel
theorem dJ0_charAt_5068e_1 : decode cJ0_charAt_5068e 1 = .ok (.invokevirtual 492, 3) := by decide +kernel
theorem dJ0_charAt_5068e_4 : decode cJ0_charAt_5068e 4 = .ok (.ifCond .eq 12, 3) := by decide +kernel
theorem dJ0_charAt_5068e_7 : decode cJ0_charAt_5068e 7 = .ok (.aload_n 0, 1) := by decide +kernel
theorem dJ0_charAt_5068e_8 : decode cJ0_charAt_5068e 8 = .ok (.getfield 9, 3) := by decide +kernel
theorem dJ0_charAt_5068e_11 : decode cJ0_charAt_5068e 11 = .ok (.iload_n 1, 1) := by decide +kernel
theorem dJ0_charAt_5068e_12 : decode cJ0_charAt_5068e 12 = .ok (.invokestatic 495, 3) := by decide +kernel
theorem dJ0_charAt_5068e_15 : decode cJ0_charAt_5068e 15 = .ok (.ireturn, 1) := by decide +kernel
theorem dJ0_charAt_5068e_16 : decode cJ0_charAt_5068e 16 = .ok (.aload_n 0, 1) := by decide +kernel
theorem dJ0_charAt_5068e_17 : decode cJ0_charAt_5068e 17 = .ok (.getfield 9, 3) := by decide +kernel
theorem dJ0_charAt_5068e_20 : decode cJ0_charAt_5068e 20 = .ok (.iload_n 1, 1) := by decide +kernel
theorem dJ0_charAt_5068e_21 : decode cJ0_charAt_5068e 21 = .ok (.invokestatic 498, 3) := by decide +kernel
theorem dJ0_charAt_5068e_24 : decode cJ0_charAt_5068e 24 = .ok (.ireturn, 1) := by decide +kernel
theorem dJ0_coder_7d493_0 : decode cJ0_coder_7d493 0 = .ok (.getstatic 38, 3) := by decide +kernel
theorem dJ0_coder_7d493_3 : decode cJ0_coder_7d493 3 = .ok (.ifCond .eq 10, 3) := by decide +kernel
theorem dJ0_coder_7d493_6 : decode cJ0_coder_7d493 6 = .ok (.aload_n 0, 1) := by decide +kernel
theorem dJ0_coder_7d493_7 : decode cJ0_coder_7d493 7 = .ok (.getfield 15, 3) := by decide +kernel
theorem dJ0_coder_7d493_10 : decode cJ0_coder_7d493 10 = .ok (.goto 4, 3) := by decide +kernel
theorem dJ0_coder_7d493_13 : decode cJ0_coder_7d493 13 = .ok (.iconst 1, 1) := by decide +kernel
theorem dJ0_coder_7d493_14 : decode cJ0_coder_7d493 14 = .ok (.ireturn, 1) := by decide +kernel
theorem dJ0_isLatin1_aae02_0 : decode cJ0_isLatin1_aae02 0 = .ok (.getstatic 38, 3) := by decide +kernel
theorem dJ0_isLatin1_aae02_3 : decode cJ0_isLatin1_aae02 3 = .ok (.ifCond .eq 14, 3) := by decide +kernel
theorem dJ0_isLatin1_aae02_6 : decode cJ0_isLatin1_aae02 6 = .ok (.aload_n 0, 1) := by decide +kernel
theorem dJ0_isLatin1_aae02_7 : decode cJ0_isLatin1_aae02 7 = .ok (.getfield 15, 3) := by decide +kernel
theorem dJ0_isLatin1_aae02_10 : decode cJ0_isLatin1_aae02 10 = .ok (.ifCond .ne 7, 3) := by decide +kernel
theorem dJ0_isLatin1_aae02_13 : decode cJ0_isLatin1_aae02 13 = .ok (.iconst 1, 1) := by decide +kernel
theorem dJ0_isLatin1_aae02_14 : decode cJ0_isLatin1_aae02 14 = .ok (.goto 4, 3) := by decide +kernel
theorem dJ0_isLatin1_aae02_17 : decode cJ0_isLatin1_aae02 17 = .ok (.iconst 0, 1) := by decide +kernel
theorem dJ0_isLatin1_aae02_18 : decode cJ0_isLatin1_aae02 18 = .ok (.ireturn, 1) := by decide +kernel
theorem dJ0_checkIndex_df160_0 : decode cJ0_checkIndex_df160 0 = .ok (.iload_n 0, 1) := by decide +kernel
theorem dJ0_checkIndex_df160_1 : decode cJ0_checkIndex_df160 1 = .ok (.iload_n 1, 1) := by decide +kernel
theorem dJ0_checkIndex_df160_2 : decode cJ0_checkIndex_df160 2 = .ok (.getstatic 1053, 3) := by decide +kernel
theorem dJ0_checkIndex_df160_5 : decode cJ0_checkIndex_df160 5 = .ok (.invokestatic 1059, 3) := by decide +kernel
theorem dJ0_checkIndex_df160_8 : decode cJ0_checkIndex_df160 8 = .ok (.pop, 1) := by decide +kernel
theorem dJ0_checkIndex_df160_9 : decode cJ0_checkIndex_df160 9 = .ok (.return_, 1) := by decide +kernel
theorem dJ1_charAt_3b067_0 : decode cJ1_charAt_3b067 0 = .ok (.iload_n 1, 1) := by decide +kernel
theorem dJ1_charAt_3b067_1 : decode cJ1_charAt_3b067 1 = .ok (.aload_n 0, 1) := by decide +kernel
theorem dJ1_charAt_3b067_2 : decode cJ1_charAt_3b067 2 = .ok (.arraylength, 1) := by decide +kernel
theorem dJ1_charAt_3b067_3 : decode cJ1_charAt_3b067 3 = .ok (.invokestatic 9, 3) := by decide +kernel
theorem dJ1_charAt_3b067_6 : decode cJ1_charAt_3b067 6 = .ok (.aload_n 0, 1) := by decide +kernel
theorem dJ1_charAt_3b067_7 : decode cJ1_charAt_3b067 7 = .ok (.iload_n 1, 1) := by decide +kernel
theorem dJ1_charAt_3b067_8 : decode cJ1_charAt_3b067 8 = .ok (.baload, 1) := by decide +kernel
theorem dJ1_charAt_3b067_9 : decode cJ1_charAt_3b067 9 = .ok (.sipush 255, 3) := by decide +kernel
theorem dJ1_charAt_3b067_12 : decode cJ1_charAt_3b067 12 = .ok (.iand, 1) := by decide +kernel
theorem dJ1_charAt_3b067_13 : decode cJ1_charAt_3b067 13 = .ok (.i2c, 1) := by decide +kernel
theorem dJ1_charAt_3b067_14 : decode cJ1_charAt_3b067 14 = .ok (.ireturn, 1) := by decide +kernel
theorem dJ2_getChar_3b067_0 : decode cJ2_getChar_3b067 0 = .ok (.getstatic 44, 3) := by decide +kernel
theorem dJ2_getChar_3b067_3 : decode cJ2_getChar_3b067 3 = .ok (.ifCond .ne 25, 3) := by decide +kernel
theorem dJ2_getChar_3b067_6 : decode cJ2_getChar_3b067 6 = .ok (.iload_n 1, 1) := by decide +kernel
theorem dJ2_getChar_3b067_7 : decode cJ2_getChar_3b067 7 = .ok (.ifCond .lt 11, 3) := by decide +kernel
theorem dJ2_getChar_3b067_10 : decode cJ2_getChar_3b067 10 = .ok (.iload_n 1, 1) := by decide +kernel
theorem dJ2_getChar_3b067_11 : decode cJ2_getChar_3b067 11 = .ok (.aload_n 0, 1) := by decide +kernel
theorem dJ2_getChar_3b067_12 : decode cJ2_getChar_3b067 12 = .ok (.invokestatic 48, 3) := by decide +kernel
theorem dJ2_getChar_3b067_15 : decode cJ2_getChar_3b067 15 = .ok (.if_icmp .lt 13, 3) := by decide +kernel
theorem dJ2_getChar_3b067_18 : decode cJ2_getChar_3b067 18 = .ok (.new 52, 3) := by decide +kernel
theorem dJ2_getChar_3b067_21 : decode cJ2_getChar_3b067 21 = .ok (.dup, 1) := by decide +kernel
theorem dJ2_getChar_3b067_22 : decode cJ2_getChar_3b067 22 = .ok (.ldc 54, 2) := by decide +kernel
theorem dJ2_getChar_3b067_24 : decode cJ2_getChar_3b067 24 = .ok (.invokespecial 56, 3) := by decide +kernel
theorem dJ2_getChar_3b067_27 : decode cJ2_getChar_3b067 27 = .ok (.athrow, 1) := by decide +kernel
theorem dJ2_getChar_3b067_28 : decode cJ2_getChar_3b067 28 = .ok (.iload_n 1, 1) := by decide +kernel
theorem dJ2_getChar_3b067_29 : decode cJ2_getChar_3b067 29 = .ok (.iconst 1, 1) := by decide +kernel
theorem dJ2_getChar_3b067_30 : decode cJ2_getChar_3b067 30 = .ok (.ishl, 1) := by decide +kernel
theorem dJ2_getChar_3b067_31 : decode cJ2_getChar_3b067 31 = .ok (.istore_n 1, 1) := by decide +kernel
theorem dJ2_getChar_3b067_32 : decode cJ2_getChar_3b067 32 = .ok (.aload_n 0, 1) := by decide +kernel
theorem dJ2_getChar_3b067_33 : decode cJ2_getChar_3b067 33 = .ok (.iload_n 1, 1) := by decide +kernel
theorem dJ2_getChar_3b067_34 : decode cJ2_getChar_3b067 34 = .ok (.iinc 1 1, 3) := by decide +kernel
theorem dJ2_getChar_3b067_37 : decode cJ2_getChar_3b067 37 = .ok (.baload, 1) := by decide +kernel
theorem dJ2_getChar_3b067_38 : decode cJ2_getChar_3b067 38 = .ok (.sipush 255, 3) := by decide +kernel
theorem dJ2_getChar_3b067_41 : decode cJ2_getChar_3b067 41 = .ok (.iand, 1) := by decide +kernel
theorem dJ2_getChar_3b067_42 : decode cJ2_getChar_3b067 42 = .ok (.getstatic 59, 3) := by decide +kernel
theorem dJ2_getChar_3b067_45 : decode cJ2_getChar_3b067 45 = .ok (.ishl, 1) := by decide +kernel
theorem dJ2_getChar_3b067_46 : decode cJ2_getChar_3b067 46 = .ok (.aload_n 0, 1) := by decide +kernel
theorem dJ2_getChar_3b067_47 : decode cJ2_getChar_3b067 47 = .ok (.iload_n 1, 1) := by decide +kernel
theorem dJ2_getChar_3b067_48 : decode cJ2_getChar_3b067 48 = .ok (.baload, 1) := by decide +kernel
theorem dJ2_getChar_3b067_49 : decode cJ2_getChar_3b067 49 = .ok (.sipush 255, 3) := by decide +kernel
theorem dJ2_getChar_3b067_52 : decode cJ2_getChar_3b067 52 = .ok (.iand, 1) := by decide +kernel
theorem dJ2_getChar_3b067_53 : decode cJ2_getChar_3b067 53 = .ok (.getstatic 63, 3) := by decide +kernel
theorem dJ2_getChar_3b067_56 : decode cJ2_getChar_3b067 56 = .ok (.ishl, 1) := by decide +kernel
theorem dJ2_getChar_3b067_57 : decode cJ2_getChar_3b067 57 = .ok (.ior, 1) := by decide +kernel
theorem dJ2_getChar_3b067_58 : decode cJ2_getChar_3b067 58 = .ok (.i2c, 1) := by decide +kernel
theorem dJ2_getChar_3b067_59 : decode cJ2_getChar_3b067 59 = .ok (.ireturn, 1) := by decide +kernel
theorem dJ2_length_9d52b_0 : decode cJ2_length_9d52b 0 = .ok (.aload_n 0, 1) := by decide +kernel
theorem dJ2_length_9d52b_1 : decode cJ2_length_9d52b 1 = .ok (.arraylength, 1) := by decide +kernel
theorem dJ2_length_9d52b_2 : decode cJ2_length_9d52b 2 = .ok (.iconst 1, 1) := by decide +kernel
theorem dJ2_length_9d52b_3 : decode cJ2_length_9d52b 3 = .ok (.ishr, 1) := by decide +kernel
theorem dJ2_length_9d52b_4 : decode cJ2_length_9d52b 4 = .ok (.ireturn, 1) := by decide +kernel
theorem dJ2_charAt_3b067_0 : decode cJ2_charAt_3b067 0 = .ok (.iload_n 1, 1) := by decide +kernel
theorem dJ2_charAt_3b067_1 : decode cJ2_charAt_3b067 1 = .ok (.aload_n 0, 1) := by decide +kernel
theorem dJ2_charAt_3b067_2 : decode cJ2_charAt_3b067 2 = .ok (.invokestatic 67, 3) := by decide +kernel
theorem dJ2_charAt_3b067_5 : decode cJ2_charAt_3b067 5 = .ok (.aload_n 0, 1) := by decide +kernel
theorem dJ2_charAt_3b067_6 : decode cJ2_charAt_3b067 6 = .ok (.iload_n 1, 1) := by decide +kernel
theorem dJ2_charAt_3b067_7 : decode cJ2_charAt_3b067 7 = .ok (.invokestatic 71, 3) := by decide +kernel
theorem dJ2_charAt_3b067_10 : decode cJ2_charAt_3b067 10 = .ok (.ireturn, 1) := by decide +kernel
theorem dJ2_checkIndex_2214a_0 : decode cJ2_checkIndex_2214a 0 = .ok (.iload_n 0, 1) := by decide +kernel
theorem dJ2_checkIndex_2214a_1 : decode cJ2_checkIndex_2214a 1 = .ok (.aload_n 1, 1) := by decide +kernel
theorem dJ2_checkIndex_2214a_2 : decode cJ2_checkIndex_2214a 2 = .ok (.invokestatic 48, 3) := by decide +kernel
theorem dJ2_checkIndex_2214a_5 : decode cJ2_checkIndex_2214a 5 = .ok (.invokestatic 414, 3) := by decide +kernel
theorem dJ2_checkIndex_2214a_8 : decode cJ2_checkIndex_2214a 8 = .ok (.return_, 1) := by decide +kernel
theorem dJ3_checkIndex_8e157_0 : decode cJ3_checkIndex_8e157 0 = .ok (.iload_n 0, 1) := by decide +kernel
theorem dJ3_checkIndex_8e157_1 : decode cJ3_checkIndex_8e157 1 = .ok (.ifCond .lt 8, 3) := by decide +kernel
theorem dJ3_checkIndex_8e157_4 : decode cJ3_checkIndex_8e157 4 = .ok (.iload_n 0, 1) := by decide +kernel
theorem dJ3_checkIndex_8e157_5 : decode cJ3_checkIndex_8e157 5 = .ok (.iload_n 1, 1) := by decide +kernel
theorem dJ3_checkIndex_8e157_6 : decode cJ3_checkIndex_8e157 6 = .ok (.if_icmp .lt 10, 3) := by decide +kernel
theorem dJ3_checkIndex_8e157_9 : decode cJ3_checkIndex_8e157 9 = .ok (.aload_n 2, 1) := by decide +kernel
theorem dJ3_checkIndex_8e157_10 : decode cJ3_checkIndex_8e157 10 = .ok (.iload_n 0, 1) := by decide +kernel
theorem dJ3_checkIndex_8e157_11 : decode cJ3_checkIndex_8e157 11 = .ok (.iload_n 1, 1) := by decide +kernel
theorem dJ3_checkIndex_8e157_12 : decode cJ3_checkIndex_8e157 12 = .ok (.invokestatic 95, 3) := by decide +kernel
theorem dJ3_checkIndex_8e157_15 : decode cJ3_checkIndex_8e157 15 = .ok (.athrow, 1) := by decide +kernel
theorem dJ3_checkIndex_8e157_16 : decode cJ3_checkIndex_8e157 16 = .ok (.iload_n 0, 1) := by decide +kernel
theorem dJ3_checkIndex_8e157_17 : decode cJ3_checkIndex_8e157 17 = .ok (.ireturn, 1) := by decide +kernel
theorem dL_law_0 : decode cL_law 0 = .ok (.new 7, 3) := by decide +kernel
theorem dL_law_3 : decode cL_law 3 = .ok (.dup, 1) := by decide +kernel
theorem dL_law_4 : decode cL_law 4 = .ok (.invokespecial 9, 3) := by decide +kernel
theorem dL_law_7 : decode cL_law 7 = .ok (.astore_n 1, 1) := by decide +kernel
theorem dL_law_8 : decode cL_law 8 = .ok (.new 10, 3) := by decide +kernel
theorem dL_law_11 : decode cL_law 11 = .ok (.dup, 1) := by decide +kernel
theorem dL_law_12 : decode cL_law 12 = .ok (.invokespecial 12, 3) := by decide +kernel
theorem dL_law_15 : decode cL_law 15 = .ok (.astore_n 2, 1) := by decide +kernel
theorem dL_law_16 : decode cL_law 16 = .ok (.iconst 0, 1) := by decide +kernel
theorem dL_law_17 : decode cL_law 17 = .ok (.istore_n 3, 1) := by decide +kernel
theorem dL_law_18 : decode cL_law 18 = .ok (.iload_n 3, 1) := by decide +kernel
theorem dL_law_19 : decode cL_law 19 = .ok (.aload_n 0, 1) := by decide +kernel
theorem dL_law_20 : decode cL_law 20 = .ok (.arraylength, 1) := by decide +kernel
theorem dL_law_21 : decode cL_law 21 = .ok (.iconst 5, 1) := by decide +kernel
theorem dL_law_22 : decode cL_law 22 = .ok (.isub, 1) := by decide +kernel
theorem dL_law_23 : decode cL_law 23 = .ok (.if_icmp .gt 985, 3) := by decide +kernel
theorem dL_law_26 : decode cL_law 26 = .ok (.aload_n 0, 1) := by decide +kernel
theorem dL_law_27 : decode cL_law 27 = .ok (.iload_n 3, 1) := by decide +kernel
theorem dL_law_28 : decode cL_law 28 = .ok (.iaload, 1) := by decide +kernel
theorem dL_law_29 : decode cL_law 29 = .ok (.bipush 31, 2) := by decide +kernel
theorem dL_law_31 : decode cL_law 31 = .ok (.iand, 1) := by decide +kernel
theorem dL_law_32 : decode cL_law 32 = .ok (.tableswitch 970 0 28 #[132, 165, 218, 261, 284, 327, 360, 383, 436, 479, 502, 525, 548, 581, 614, 647, 670, 684, 707, 730, 773, 786, 819, 872, 885, 898, 911, 924, 947], 132) := by decide +kernel
theorem dL_law_164 : decode cL_law 164 = .ok (.aload_n 1, 1) := by decide +kernel
theorem dL_law_165 : decode cL_law 165 = .ok (.aload_n 0, 1) := by decide +kernel
theorem dL_law_166 : decode cL_law 166 = .ok (.iload_n 3, 1) := by decide +kernel
theorem dL_law_167 : decode cL_law 167 = .ok (.iconst 1, 1) := by decide +kernel
theorem dL_law_168 : decode cL_law 168 = .ok (.iadd, 1) := by decide +kernel
theorem dL_law_169 : decode cL_law 169 = .ok (.iaload, 1) := by decide +kernel
theorem dL_law_170 : decode cL_law 170 = .ok (.aload_n 0, 1) := by decide +kernel
theorem dL_law_171 : decode cL_law 171 = .ok (.iload_n 3, 1) := by decide +kernel
theorem dL_law_172 : decode cL_law 172 = .ok (.iconst 2, 1) := by decide +kernel
theorem dL_law_173 : decode cL_law 173 = .ok (.iadd, 1) := by decide +kernel
theorem dL_law_174 : decode cL_law 174 = .ok (.iaload, 1) := by decide +kernel
theorem dL_law_175 : decode cL_law 175 = .ok (.invokevirtual 13, 3) := by decide +kernel
theorem dL_law_178 : decode cL_law 178 = .ok (.aload_n 2, 1) := by decide +kernel
theorem dL_law_179 : decode cL_law 179 = .ok (.aload_n 0, 1) := by decide +kernel
theorem dL_law_180 : decode cL_law 180 = .ok (.iload_n 3, 1) := by decide +kernel
theorem dL_law_181 : decode cL_law 181 = .ok (.iconst 1, 1) := by decide +kernel
theorem dL_law_182 : decode cL_law 182 = .ok (.iadd, 1) := by decide +kernel
theorem dL_law_183 : decode cL_law 183 = .ok (.iaload, 1) := by decide +kernel
theorem dL_law_184 : decode cL_law 184 = .ok (.aload_n 0, 1) := by decide +kernel
theorem dL_law_185 : decode cL_law 185 = .ok (.iload_n 3, 1) := by decide +kernel
theorem dL_law_186 : decode cL_law 186 = .ok (.iconst 2, 1) := by decide +kernel
theorem dL_law_187 : decode cL_law 187 = .ok (.iadd, 1) := by decide +kernel
theorem dL_law_188 : decode cL_law 188 = .ok (.iaload, 1) := by decide +kernel
theorem dL_law_189 : decode cL_law 189 = .ok (.invokevirtual 17, 3) := by decide +kernel
theorem dL_law_192 : decode cL_law 192 = .ok (.if_icmp .eq 810, 3) := by decide +kernel
theorem dL_law_195 : decode cL_law 195 = .ok (.iconst 0, 1) := by decide +kernel
theorem dL_law_196 : decode cL_law 196 = .ok (.ireturn, 1) := by decide +kernel
theorem dL_law_197 : decode cL_law 197 = .ok (.aload_n 1, 1) := by decide +kernel
theorem dL_law_198 : decode cL_law 198 = .ok (.aload_n 0, 1) := by decide +kernel
theorem dL_law_199 : decode cL_law 199 = .ok (.iload_n 3, 1) := by decide +kernel
theorem dL_law_200 : decode cL_law 200 = .ok (.iconst 1, 1) := by decide +kernel
theorem dL_law_201 : decode cL_law 201 = .ok (.iadd, 1) := by decide +kernel
theorem dL_law_202 : decode cL_law 202 = .ok (.iaload, 1) := by decide +kernel
theorem dL_law_203 : decode cL_law 203 = .ok (.aload_n 0, 1) := by decide +kernel
theorem dL_law_204 : decode cL_law 204 = .ok (.iload_n 3, 1) := by decide +kernel
theorem dL_law_205 : decode cL_law 205 = .ok (.iconst 2, 1) := by decide +kernel
theorem dL_law_206 : decode cL_law 206 = .ok (.iadd, 1) := by decide +kernel
theorem dL_law_207 : decode cL_law 207 = .ok (.iaload, 1) := by decide +kernel
theorem dL_law_208 : decode cL_law 208 = .ok (.aload_n 0, 1) := by decide +kernel
theorem dL_law_209 : decode cL_law 209 = .ok (.iload_n 3, 1) := by decide +kernel
theorem dL_law_210 : decode cL_law 210 = .ok (.iconst 3, 1) := by decide +kernel
theorem dL_law_211 : decode cL_law 211 = .ok (.iadd, 1) := by decide +kernel
theorem dL_law_212 : decode cL_law 212 = .ok (.iaload, 1) := by decide +kernel
theorem dL_law_213 : decode cL_law 213 = .ok (.aload_n 0, 1) := by decide +kernel
theorem dL_law_214 : decode cL_law 214 = .ok (.iload_n 3, 1) := by decide +kernel
theorem dL_law_215 : decode cL_law 215 = .ok (.iconst 4, 1) := by decide +kernel
theorem dL_law_216 : decode cL_law 216 = .ok (.iadd, 1) := by decide +kernel
theorem dL_law_217 : decode cL_law 217 = .ok (.iaload, 1) := by decide +kernel
theorem dL_law_218 : decode cL_law 218 = .ok (.invokevirtual 18, 3) := by decide +kernel
theorem dL_law_221 : decode cL_law 221 = .ok (.aload_n 2, 1) := by decide +kernel
theorem dL_law_222 : decode cL_law 222 = .ok (.aload_n 0, 1) := by decide +kernel
theorem dL_law_223 : decode cL_law 223 = .ok (.iload_n 3, 1) := by decide +kernel
theorem dL_law_224 : decode cL_law 224 = .ok (.iconst 1, 1) := by decide +kernel
theorem dL_law_225 : decode cL_law 225 = .ok (.iadd, 1) := by decide +kernel
theorem dL_law_226 : decode cL_law 226 = .ok (.iaload, 1) := by decide +kernel
theorem dL_law_227 : decode cL_law 227 = .ok (.aload_n 0, 1) := by decide +kernel
theorem dL_law_228 : decode cL_law 228 = .ok (.iload_n 3, 1) := by decide +kernel
theorem dL_law_229 : decode cL_law 229 = .ok (.iconst 2, 1) := by decide +kernel
theorem dL_law_230 : decode cL_law 230 = .ok (.iadd, 1) := by decide +kernel
theorem dL_law_231 : decode cL_law 231 = .ok (.iaload, 1) := by decide +kernel
theorem dL_law_232 : decode cL_law 232 = .ok (.aload_n 0, 1) := by decide +kernel
theorem dL_law_233 : decode cL_law 233 = .ok (.iload_n 3, 1) := by decide +kernel
theorem dL_law_234 : decode cL_law 234 = .ok (.iconst 3, 1) := by decide +kernel
theorem dL_law_235 : decode cL_law 235 = .ok (.iadd, 1) := by decide +kernel
theorem dL_law_236 : decode cL_law 236 = .ok (.iaload, 1) := by decide +kernel
theorem dL_law_237 : decode cL_law 237 = .ok (.aload_n 0, 1) := by decide +kernel
theorem dL_law_238 : decode cL_law 238 = .ok (.iload_n 3, 1) := by decide +kernel
theorem dL_law_239 : decode cL_law 239 = .ok (.iconst 4, 1) := by decide +kernel
theorem dL_law_240 : decode cL_law 240 = .ok (.iadd, 1) := by decide +kernel
theorem dL_law_241 : decode cL_law 241 = .ok (.iaload, 1) := by decide +kernel
theorem dL_law_242 : decode cL_law 242 = .ok (.invokevirtual 22, 3) := by decide +kernel
theorem dL_law_245 : decode cL_law 245 = .ok (.if_icmp .eq 757, 3) := by decide +kernel
theorem dL_law_248 : decode cL_law 248 = .ok (.iconst 0, 1) := by decide +kernel
theorem dL_law_249 : decode cL_law 249 = .ok (.ireturn, 1) := by decide +kernel
theorem dL_law_250 : decode cL_law 250 = .ok (.aload_n 1, 1) := by decide +kernel
theorem dL_law_251 : decode cL_law 251 = .ok (.aload_n 0, 1) := by decide +kernel
theorem dL_law_252 : decode cL_law 252 = .ok (.iload_n 3, 1) := by decide +kernel
theorem dL_law_253 : decode cL_law 253 = .ok (.iconst 1, 1) := by decide +kernel
theorem dL_law_254 : decode cL_law 254 = .ok (.iadd, 1) := by decide +kernel
theorem dL_law_255 : decode cL_law 255 = .ok (.iaload, 1) := by decide +kernel
theorem dL_law_256 : decode cL_law 256 = .ok (.aload_n 0, 1) := by decide +kernel
theorem dL_law_257 : decode cL_law 257 = .ok (.iload_n 3, 1) := by decide +kernel
theorem dL_law_258 : decode cL_law 258 = .ok (.iconst 2, 1) := by decide +kernel
theorem dL_law_259 : decode cL_law 259 = .ok (.iadd, 1) := by decide +kernel
theorem dL_law_260 : decode cL_law 260 = .ok (.iaload, 1) := by decide +kernel
theorem dL_law_261 : decode cL_law 261 = .ok (.aload_n 0, 1) := by decide +kernel
theorem dL_law_262 : decode cL_law 262 = .ok (.iload_n 3, 1) := by decide +kernel
theorem dL_law_263 : decode cL_law 263 = .ok (.iconst 3, 1) := by decide +kernel
theorem dL_law_264 : decode cL_law 264 = .ok (.iadd, 1) := by decide +kernel
theorem dL_law_265 : decode cL_law 265 = .ok (.iaload, 1) := by decide +kernel
theorem dL_law_266 : decode cL_law 266 = .ok (.invokevirtual 23, 3) := by decide +kernel
theorem dL_law_269 : decode cL_law 269 = .ok (.aload_n 2, 1) := by decide +kernel
theorem dL_law_270 : decode cL_law 270 = .ok (.aload_n 0, 1) := by decide +kernel
theorem dL_law_271 : decode cL_law 271 = .ok (.iload_n 3, 1) := by decide +kernel
theorem dL_law_272 : decode cL_law 272 = .ok (.iconst 1, 1) := by decide +kernel
theorem dL_law_273 : decode cL_law 273 = .ok (.iadd, 1) := by decide +kernel
theorem dL_law_274 : decode cL_law 274 = .ok (.iaload, 1) := by decide +kernel
theorem dL_law_275 : decode cL_law 275 = .ok (.aload_n 0, 1) := by decide +kernel
theorem dL_law_276 : decode cL_law 276 = .ok (.iload_n 3, 1) := by decide +kernel
theorem dL_law_277 : decode cL_law 277 = .ok (.iconst 2, 1) := by decide +kernel
theorem dL_law_278 : decode cL_law 278 = .ok (.iadd, 1) := by decide +kernel
theorem dL_law_279 : decode cL_law 279 = .ok (.iaload, 1) := by decide +kernel
theorem dL_law_280 : decode cL_law 280 = .ok (.aload_n 0, 1) := by decide +kernel
theorem dL_law_281 : decode cL_law 281 = .ok (.iload_n 3, 1) := by decide +kernel
theorem dL_law_282 : decode cL_law 282 = .ok (.iconst 3, 1) := by decide +kernel
theorem dL_law_283 : decode cL_law 283 = .ok (.iadd, 1) := by decide +kernel
theorem dL_law_284 : decode cL_law 284 = .ok (.iaload, 1) := by decide +kernel
theorem dL_law_285 : decode cL_law 285 = .ok (.invokevirtual 27, 3) := by decide +kernel
theorem dL_law_288 : decode cL_law 288 = .ok (.if_icmp .eq 714, 3) := by decide +kernel
theorem dL_law_291 : decode cL_law 291 = .ok (.iconst 0, 1) := by decide +kernel
theorem dL_law_292 : decode cL_law 292 = .ok (.ireturn, 1) := by decide +kernel
theorem dL_law_293 : decode cL_law 293 = .ok (.aload_n 1, 1) := by decide +kernel
theorem dL_law_294 : decode cL_law 294 = .ok (.aload_n 0, 1) := by decide +kernel
theorem dL_law_295 : decode cL_law 295 = .ok (.iload_n 3, 1) := by decide +kernel
theorem dL_law_296 : decode cL_law 296 = .ok (.iconst 1, 1) := by decide +kernel
theorem dL_law_297 : decode cL_law 297 = .ok (.iadd, 1) := by decide +kernel
theorem dL_law_298 : decode cL_law 298 = .ok (.iaload, 1) := by decide +kernel
theorem dL_law_299 : decode cL_law 299 = .ok (.invokevirtual 28, 3) := by decide +kernel
theorem dL_law_302 : decode cL_law 302 = .ok (.aload_n 2, 1) := by decide +kernel
theorem dL_law_303 : decode cL_law 303 = .ok (.aload_n 0, 1) := by decide +kernel
theorem dL_law_304 : decode cL_law 304 = .ok (.iload_n 3, 1) := by decide +kernel
theorem dL_law_305 : decode cL_law 305 = .ok (.iconst 1, 1) := by decide +kernel
theorem dL_law_306 : decode cL_law 306 = .ok (.iadd, 1) := by decide +kernel
theorem dL_law_307 : decode cL_law 307 = .ok (.iaload, 1) := by decide +kernel
theorem dL_law_308 : decode cL_law 308 = .ok (.invokevirtual 32, 3) := by decide +kernel
theorem dL_law_311 : decode cL_law 311 = .ok (.if_icmp .eq 691, 3) := by decide +kernel
theorem dL_law_314 : decode cL_law 314 = .ok (.iconst 0, 1) := by decide +kernel
theorem dL_law_315 : decode cL_law 315 = .ok (.ireturn, 1) := by decide +kernel
theorem dL_law_316 : decode cL_law 316 = .ok (.aload_n 1, 1) := by decide +kernel
theorem dL_law_317 : decode cL_law 317 = .ok (.aload_n 0, 1) := by decide +kernel
theorem dL_law_318 : decode cL_law 318 = .ok (.iload_n 3, 1) := by decide +kernel
theorem dL_law_319 : decode cL_law 319 = .ok (.iconst 1, 1) := by decide +kernel
theorem dL_law_320 : decode cL_law 320 = .ok (.iadd, 1) := by decide +kernel
theorem dL_law_321 : decode cL_law 321 = .ok (.iaload, 1) := by decide +kernel
theorem dL_law_322 : decode cL_law 322 = .ok (.aload_n 0, 1) := by decide +kernel
theorem dL_law_323 : decode cL_law 323 = .ok (.iload_n 3, 1) := by decide +kernel
theorem dL_law_324 : decode cL_law 324 = .ok (.iconst 2, 1) := by decide +kernel
theorem dL_law_325 : decode cL_law 325 = .ok (.iadd, 1) := by decide +kernel
theorem dL_law_326 : decode cL_law 326 = .ok (.iaload, 1) := by decide +kernel
theorem dL_law_327 : decode cL_law 327 = .ok (.aload_n 0, 1) := by decide +kernel
theorem dL_law_328 : decode cL_law 328 = .ok (.iload_n 3, 1) := by decide +kernel
theorem dL_law_329 : decode cL_law 329 = .ok (.iconst 3, 1) := by decide +kernel
theorem dL_law_330 : decode cL_law 330 = .ok (.iadd, 1) := by decide +kernel
theorem dL_law_331 : decode cL_law 331 = .ok (.iaload, 1) := by decide +kernel
theorem dL_law_332 : decode cL_law 332 = .ok (.invokevirtual 33, 3) := by decide +kernel
theorem dL_law_335 : decode cL_law 335 = .ok (.aload_n 2, 1) := by decide +kernel
theorem dL_law_336 : decode cL_law 336 = .ok (.aload_n 0, 1) := by decide +kernel
theorem dL_law_337 : decode cL_law 337 = .ok (.iload_n 3, 1) := by decide +kernel
theorem dL_law_338 : decode cL_law 338 = .ok (.iconst 1, 1) := by decide +kernel
theorem dL_law_339 : decode cL_law 339 = .ok (.iadd, 1) := by decide +kernel
theorem dL_law_340 : decode cL_law 340 = .ok (.iaload, 1) := by decide +kernel
theorem dL_law_341 : decode cL_law 341 = .ok (.aload_n 0, 1) := by decide +kernel
theorem dL_law_342 : decode cL_law 342 = .ok (.iload_n 3, 1) := by decide +kernel
theorem dL_law_343 : decode cL_law 343 = .ok (.iconst 2, 1) := by decide +kernel
theorem dL_law_344 : decode cL_law 344 = .ok (.iadd, 1) := by decide +kernel
theorem dL_law_345 : decode cL_law 345 = .ok (.iaload, 1) := by decide +kernel
theorem dL_law_346 : decode cL_law 346 = .ok (.aload_n 0, 1) := by decide +kernel
theorem dL_law_347 : decode cL_law 347 = .ok (.iload_n 3, 1) := by decide +kernel
theorem dL_law_348 : decode cL_law 348 = .ok (.iconst 3, 1) := by decide +kernel
theorem dL_law_349 : decode cL_law 349 = .ok (.iadd, 1) := by decide +kernel
theorem dL_law_350 : decode cL_law 350 = .ok (.iaload, 1) := by decide +kernel
theorem dL_law_351 : decode cL_law 351 = .ok (.invokevirtual 36, 3) := by decide +kernel
theorem dL_law_354 : decode cL_law 354 = .ok (.if_icmp .eq 648, 3) := by decide +kernel
theorem dL_law_357 : decode cL_law 357 = .ok (.iconst 0, 1) := by decide +kernel
theorem dL_law_358 : decode cL_law 358 = .ok (.ireturn, 1) := by decide +kernel
theorem dL_law_359 : decode cL_law 359 = .ok (.aload_n 1, 1) := by decide +kernel
theorem dL_law_360 : decode cL_law 360 = .ok (.aload_n 0, 1) := by decide +kernel
theorem dL_law_361 : decode cL_law 361 = .ok (.iload_n 3, 1) := by decide +kernel
theorem dL_law_362 : decode cL_law 362 = .ok (.iconst 1, 1) := by decide +kernel
theorem dL_law_363 : decode cL_law 363 = .ok (.iadd, 1) := by decide +kernel
theorem dL_law_364 : decode cL_law 364 = .ok (.iaload, 1) := by decide +kernel
theorem dL_law_365 : decode cL_law 365 = .ok (.aload_n 0, 1) := by decide +kernel
theorem dL_law_366 : decode cL_law 366 = .ok (.iload_n 3, 1) := by decide +kernel
theorem dL_law_367 : decode cL_law 367 = .ok (.iconst 2, 1) := by decide +kernel
theorem dL_law_368 : decode cL_law 368 = .ok (.iadd, 1) := by decide +kernel
theorem dL_law_369 : decode cL_law 369 = .ok (.iaload, 1) := by decide +kernel
theorem dL_law_370 : decode cL_law 370 = .ok (.invokevirtual 37, 3) := by decide +kernel
theorem dL_law_373 : decode cL_law 373 = .ok (.aload_n 2, 1) := by decide +kernel
theorem dL_law_374 : decode cL_law 374 = .ok (.aload_n 0, 1) := by decide +kernel
theorem dL_law_375 : decode cL_law 375 = .ok (.iload_n 3, 1) := by decide +kernel
theorem dL_law_376 : decode cL_law 376 = .ok (.iconst 1, 1) := by decide +kernel
theorem dL_law_377 : decode cL_law 377 = .ok (.iadd, 1) := by decide +kernel
theorem dL_law_378 : decode cL_law 378 = .ok (.iaload, 1) := by decide +kernel
