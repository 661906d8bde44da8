theorem dX8_ofOrderAt_0 : decode cX8_ofOrderAt 0 = .ok (.sipush 252, 3) := by decide +kernel
theorem dX8_ofOrderAt_3 : decode cX8_ofOrderAt 3 = .ok (.bipush 6, 2) := by decide +kernel
theorem dX8_ofOrderAt_5 : decode cX8_ofOrderAt 5 = .ok (.iload_n 0, 1) := by decide +kernel
theorem dX8_ofOrderAt_6 : decode cX8_ofOrderAt 6 = .ok (.imul, 1) := by decide +kernel
theorem dX8_ofOrderAt_7 : decode cX8_ofOrderAt 7 = .ok (.iadd, 1) := by decide +kernel
theorem dX8_ofOrderAt_8 : decode cX8_ofOrderAt 8 = .ok (.iload_n 1, 1) := by decide +kernel
theorem dX8_ofOrderAt_9 : decode cX8_ofOrderAt 9 = .ok (.iadd, 1) := by decide +kernel
theorem dX8_ofOrderAt_10 : decode cX8_ofOrderAt 10 = .ok (.ireturn, 1) := by decide +kernel
theorem dX8_ofLorryAt_0 : decode cX8_ofLorryAt 0 = .ok (.sipush 312, 3) := by decide +kernel
theorem dX8_ofLorryAt_3 : decode cX8_ofLorryAt 3 = .ok (.iconst 4, 1) := by decide +kernel
theorem dX8_ofLorryAt_4 : decode cX8_ofLorryAt 4 = .ok (.iload_n 0, 1) := by decide +kernel
theorem dX8_ofLorryAt_5 : decode cX8_ofLorryAt 5 = .ok (.imul, 1) := by decide +kernel
theorem dX8_ofLorryAt_6 : decode cX8_ofLorryAt 6 = .ok (.iadd, 1) := by decide +kernel
theorem dX8_ofLorryAt_7 : decode cX8_ofLorryAt 7 = .ok (.iload_n 1, 1) := by decide +kernel
theorem dX8_ofLorryAt_8 : decode cX8_ofLorryAt 8 = .ok (.iadd, 1) := by decide +kernel
theorem dX8_ofLorryAt_9 : decode cX8_ofLorryAt 9 = .ok (.ireturn, 1) := by decide +kernel
theorem dX8_looks_0 : decode cX8_looks 0 = .ok (.iconst 0, 1) := by decide +kernel
theorem dX8_looks_1 : decode cX8_looks 1 = .ok (.istore_n 1, 1) := by decide +kernel
theorem dX8_looks_2 : decode cX8_looks 2 = .ok (.iload_n 1, 1) := by decide +kernel
theorem dX8_looks_3 : decode cX8_looks 3 = .ok (.sipush 324, 3) := by decide +kernel
theorem dX8_looks_6 : decode cX8_looks 6 = .ok (.if_icmp .ge 21, 3) := by decide +kernel
theorem dX8_looks_9 : decode cX8_looks 9 = .ok (.aload_n 0, 1) := by decide +kernel
theorem dX8_looks_10 : decode cX8_looks 10 = .ok (.getfield 13, 3) := by decide +kernel
theorem dX8_looks_13 : decode cX8_looks 13 = .ok (.iload_n 1, 1) := by decide +kernel
theorem dX8_looks_14 : decode cX8_looks 14 = .ok (.aload_n 0, 1) := by decide +kernel
theorem dX8_looks_15 : decode cX8_looks 15 = .ok (.getfield 7, 3) := by decide +kernel
theorem dX8_looks_18 : decode cX8_looks 18 = .ok (.iload_n 1, 1) := by decide +kernel
theorem dX8_looks_19 : decode cX8_looks 19 = .ok (.iaload, 1) := by decide +kernel
theorem dX8_looks_20 : decode cX8_looks 20 = .ok (.iastore, 1) := by decide +kernel
theorem dX8_looks_21 : decode cX8_looks 21 = .ok (.iinc 1 1, 3) := by decide +kernel
theorem dX8_looks_24 : decode cX8_looks 24 = .ok (.goto (-22), 3) := by decide +kernel
theorem dX8_looks_27 : decode cX8_looks 27 = .ok (.return_, 1) := by decide +kernel
theorem dX8_records_0 : decode cX8_records 0 = .ok (.aload_n 0, 1) := by decide +kernel
theorem dX8_records_1 : decode cX8_records 1 = .ok (.getfield 43, 3) := by decide +kernel
theorem dX8_records_4 : decode cX8_records 4 = .ok (.bipush 6, 2) := by decide +kernel
theorem dX8_records_6 : decode cX8_records 6 = .ok (.if_icmp .ne 44, 3) := by decide +kernel
theorem dX8_records_9 : decode cX8_records 9 = .ok (.iconst 0, 1) := by decide +kernel
theorem dX8_records_10 : decode cX8_records 10 = .ok (.istore_n 1, 1) := by decide +kernel
theorem dX8_records_11 : decode cX8_records 11 = .ok (.iload_n 1, 1) := by decide +kernel
theorem dX8_records_12 : decode cX8_records 12 = .ok (.sipush 1620, 3) := by decide +kernel
theorem dX8_records_15 : decode cX8_records 15 = .ok (.if_icmp .ge 25, 3) := by decide +kernel
theorem dX8_records_18 : decode cX8_records 18 = .ok (.aload_n 0, 1) := by decide +kernel
theorem dX8_records_19 : decode cX8_records 19 = .ok (.getfield 16, 3) := by decide +kernel
theorem dX8_records_22 : decode cX8_records 22 = .ok (.iload_n 1, 1) := by decide +kernel
theorem dX8_records_23 : decode cX8_records 23 = .ok (.aload_n 0, 1) := by decide +kernel
theorem dX8_records_24 : decode cX8_records 24 = .ok (.getfield 16, 3) := by decide +kernel
theorem dX8_records_27 : decode cX8_records 27 = .ok (.iload_n 1, 1) := by decide +kernel
theorem dX8_records_28 : decode cX8_records 28 = .ok (.sipush 324, 3) := by decide +kernel
theorem dX8_records_31 : decode cX8_records 31 = .ok (.iadd, 1) := by decide +kernel
theorem dX8_records_32 : decode cX8_records 32 = .ok (.iaload, 1) := by decide +kernel
theorem dX8_records_33 : decode cX8_records 33 = .ok (.iastore, 1) := by decide +kernel
theorem dX8_records_34 : decode cX8_records 34 = .ok (.iinc 1 1, 3) := by decide +kernel
theorem dX8_records_37 : decode cX8_records 37 = .ok (.goto (-26), 3) := by decide +kernel
theorem dX8_records_40 : decode cX8_records 40 = .ok (.aload_n 0, 1) := by decide +kernel
theorem dX8_records_41 : decode cX8_records 41 = .ok (.dup, 1) := by decide +kernel
theorem dX8_records_42 : decode cX8_records 42 = .ok (.getfield 43, 3) := by decide +kernel
theorem dX8_records_45 : decode cX8_records 45 = .ok (.iconst 1, 1) := by decide +kernel
theorem dX8_records_46 : decode cX8_records 46 = .ok (.isub, 1) := by decide +kernel
theorem dX8_records_47 : decode cX8_records 47 = .ok (.putfield 43, 3) := by decide +kernel
theorem dX8_records_50 : decode cX8_records 50 = .ok (.iconst 0, 1) := by decide +kernel
theorem dX8_records_51 : decode cX8_records 51 = .ok (.istore_n 1, 1) := by decide +kernel
theorem dX8_records_52 : decode cX8_records 52 = .ok (.iload_n 1, 1) := by decide +kernel
theorem dX8_records_53 : decode cX8_records 53 = .ok (.sipush 324, 3) := by decide +kernel
theorem dX8_records_56 : decode cX8_records 56 = .ok (.if_icmp .ge 30, 3) := by decide +kernel
theorem dX8_records_59 : decode cX8_records 59 = .ok (.aload_n 0, 1) := by decide +kernel
theorem dX8_records_60 : decode cX8_records 60 = .ok (.getfield 16, 3) := by decide +kernel
theorem dX8_records_63 : decode cX8_records 63 = .ok (.sipush 324, 3) := by decide +kernel
theorem dX8_records_66 : decode cX8_records 66 = .ok (.aload_n 0, 1) := by decide +kernel
theorem dX8_records_67 : decode cX8_records 67 = .ok (.getfield 43, 3) := by decide +kernel
theorem dX8_records_70 : decode cX8_records 70 = .ok (.imul, 1) := by decide +kernel
theorem dX8_records_71 : decode cX8_records 71 = .ok (.iload_n 1, 1) := by decide +kernel
theorem dX8_records_72 : decode cX8_records 72 = .ok (.iadd, 1) := by decide +kernel
theorem dX8_records_73 : decode cX8_records 73 = .ok (.aload_n 0, 1) := by decide +kernel
theorem dX8_records_74 : decode cX8_records 74 = .ok (.getfield 13, 3) := by decide +kernel
theorem dX8_records_77 : decode cX8_records 77 = .ok (.iload_n 1, 1) := by decide +kernel
theorem dX8_records_78 : decode cX8_records 78 = .ok (.iaload, 1) := by decide +kernel
theorem dX8_records_79 : decode cX8_records 79 = .ok (.iastore, 1) := by decide +kernel
theorem dX8_records_80 : decode cX8_records 80 = .ok (.iinc 1 1, 3) := by decide +kernel
theorem dX8_records_83 : decode cX8_records 83 = .ok (.goto (-31), 3) := by decide +kernel
theorem dX8_records_86 : decode cX8_records 86 = .ok (.aload_n 0, 1) := by decide +kernel
theorem dX8_records_87 : decode cX8_records 87 = .ok (.dup, 1) := by decide +kernel
theorem dX8_records_88 : decode cX8_records 88 = .ok (.getfield 43, 3) := by decide +kernel
theorem dX8_records_91 : decode cX8_records 91 = .ok (.iconst 1, 1) := by decide +kernel
theorem dX8_records_92 : decode cX8_records 92 = .ok (.iadd, 1) := by decide +kernel
theorem dX8_records_93 : decode cX8_records 93 = .ok (.putfield 43, 3) := by decide +kernel
theorem dX8_records_96 : decode cX8_records 96 = .ok (.return_, 1) := by decide +kernel
theorem dX8_weight_0 : decode cX8_weight 0 = .ok (.aload_n 0, 1) := by decide +kernel
theorem dX8_weight_1 : decode cX8_weight 1 = .ok (.getfield 7, 3) := by decide +kernel
theorem dX8_weight_4 : decode cX8_weight 4 = .ok (.iload_n 1, 1) := by decide +kernel
theorem dX8_weight_5 : decode cX8_weight 5 = .ok (.iconst 0, 1) := by decide +kernel
theorem dX8_weight_6 : decode cX8_weight 6 = .ok (.invokestatic 47, 3) := by decide +kernel
theorem dX8_weight_9 : decode cX8_weight 9 = .ok (.iaload, 1) := by decide +kernel
theorem dX8_weight_10 : decode cX8_weight 10 = .ok (.aload_n 0, 1) := by decide +kernel
theorem dX8_weight_11 : decode cX8_weight 11 = .ok (.getfield 7, 3) := by decide +kernel
theorem dX8_weight_14 : decode cX8_weight 14 = .ok (.iload_n 1, 1) := by decide +kernel
theorem dX8_weight_15 : decode cX8_weight 15 = .ok (.iconst 1, 1) := by decide +kernel
theorem dX8_weight_16 : decode cX8_weight 16 = .ok (.invokestatic 47, 3) := by decide +kernel
theorem dX8_weight_19 : decode cX8_weight 19 = .ok (.iaload, 1) := by decide +kernel
theorem dX8_weight_20 : decode cX8_weight 20 = .ok (.imul, 1) := by decide +kernel
theorem dX8_weight_21 : decode cX8_weight 21 = .ok (.aload_n 0, 1) := by decide +kernel
theorem dX8_weight_22 : decode cX8_weight 22 = .ok (.getfield 7, 3) := by decide +kernel
theorem dX8_weight_25 : decode cX8_weight 25 = .ok (.iload_n 1, 1) := by decide +kernel
theorem dX8_weight_26 : decode cX8_weight 26 = .ok (.iconst 2, 1) := by decide +kernel
theorem dX8_weight_27 : decode cX8_weight 27 = .ok (.invokestatic 47, 3) := by decide +kernel
theorem dX8_weight_30 : decode cX8_weight 30 = .ok (.iaload, 1) := by decide +kernel
theorem dX8_weight_31 : decode cX8_weight 31 = .ok (.imul, 1) := by decide +kernel
theorem dX8_weight_32 : decode cX8_weight 32 = .ok (.aload_n 0, 1) := by decide +kernel
theorem dX8_weight_33 : decode cX8_weight 33 = .ok (.getfield 7, 3) := by decide +kernel
theorem dX8_weight_36 : decode cX8_weight 36 = .ok (.iload_n 1, 1) := by decide +kernel
theorem dX8_weight_37 : decode cX8_weight 37 = .ok (.iconst 3, 1) := by decide +kernel
theorem dX8_weight_38 : decode cX8_weight 38 = .ok (.invokestatic 47, 3) := by decide +kernel
theorem dX8_weight_41 : decode cX8_weight 41 = .ok (.iaload, 1) := by decide +kernel
theorem dX8_weight_42 : decode cX8_weight 42 = .ok (.imul, 1) := by decide +kernel
theorem dX8_weight_43 : decode cX8_weight 43 = .ok (.sipush 10000, 3) := by decide +kernel
theorem dX8_weight_46 : decode cX8_weight 46 = .ok (.idiv, 1) := by decide +kernel
theorem dX8_weight_47 : decode cX8_weight 47 = .ok (.ireturn, 1) := by decide +kernel
theorem dX8_isAt_0 : decode cX8_isAt 0 = .ok (.aload_n 0, 1) := by decide +kernel
theorem dX8_isAt_1 : decode cX8_isAt 1 = .ok (.getfield 7, 3) := by decide +kernel
theorem dX8_isAt_4 : decode cX8_isAt 4 = .ok (.iload_n 1, 1) := by decide +kernel
theorem dX8_isAt_5 : decode cX8_isAt 5 = .ok (.iconst 4, 1) := by decide +kernel
theorem dX8_isAt_6 : decode cX8_isAt 6 = .ok (.invokestatic 47, 3) := by decide +kernel
theorem dX8_isAt_9 : decode cX8_isAt 9 = .ok (.iaload, 1) := by decide +kernel
theorem dX8_isAt_10 : decode cX8_isAt 10 = .ok (.iload_n 2, 1) := by decide +kernel
theorem dX8_isAt_11 : decode cX8_isAt 11 = .ok (.if_icmp .ne 7, 3) := by decide +kernel
theorem dX8_isAt_14 : decode cX8_isAt 14 = .ok (.iconst 1, 1) := by decide +kernel
theorem dX8_isAt_15 : decode cX8_isAt 15 = .ok (.goto 4, 3) := by decide +kernel
theorem dX8_isAt_18 : decode cX8_isAt 18 = .ok (.iconst 0, 1) := by decide +kernel
theorem dX8_isAt_19 : decode cX8_isAt 19 = .ok (.ireturn, 1) := by decide +kernel
theorem dX8_isHere_0 : decode cX8_isHere 0 = .ok (.aload_n 0, 1) := by decide +kernel
theorem dX8_isHere_1 : decode cX8_isHere 1 = .ok (.iload_n 1, 1) := by decide +kernel
theorem dX8_isHere_2 : decode cX8_isHere 2 = .ok (.iconst 0, 1) := by decide +kernel
theorem dX8_isHere_3 : decode cX8_isHere 3 = .ok (.invokevirtual 50, 3) := by decide +kernel
theorem dX8_isHere_6 : decode cX8_isHere 6 = .ok (.ifCond .ne 12, 3) := by decide +kernel
theorem dX8_isHere_9 : decode cX8_isHere 9 = .ok (.aload_n 0, 1) := by decide +kernel
theorem dX8_isHere_10 : decode cX8_isHere 10 = .ok (.iload_n 1, 1) := by decide +kernel
theorem dX8_isHere_11 : decode cX8_isHere 11 = .ok (.iconst 1, 1) := by decide +kernel
theorem dX8_isHere_12 : decode cX8_isHere 12 = .ok (.invokevirtual 50, 3) := by decide +kernel
theorem dX8_isHere_15 : decode cX8_isHere 15 = .ok (.ifCond .eq 7, 3) := by decide +kernel
theorem dX8_isHere_18 : decode cX8_isHere 18 = .ok (.iconst 1, 1) := by decide +kernel
theorem dX8_isHere_19 : decode cX8_isHere 19 = .ok (.goto 4, 3) := by decide +kernel
theorem dX8_isHere_22 : decode cX8_isHere 22 = .ok (.iconst 0, 1) := by decide +kernel
theorem dX8_isHere_23 : decode cX8_isHere 23 = .ok (.ireturn, 1) := by decide +kernel
theorem dX8_underRoof_0 : decode cX8_underRoof 0 = .ok (.iconst 0, 1) := by decide +kernel
theorem dX8_underRoof_1 : decode cX8_underRoof 1 = .ok (.istore_n 1, 1) := by decide +kernel
theorem dX8_underRoof_2 : decode cX8_underRoof 2 = .ok (.iconst 0, 1) := by decide +kernel
theorem dX8_underRoof_3 : decode cX8_underRoof 3 = .ok (.istore_n 2, 1) := by decide +kernel
theorem dX8_underRoof_4 : decode cX8_underRoof 4 = .ok (.iload_n 2, 1) := by decide +kernel
theorem dX8_underRoof_5 : decode cX8_underRoof 5 = .ok (.aload_n 0, 1) := by decide +kernel
theorem dX8_underRoof_6 : decode cX8_underRoof 6 = .ok (.getfield 7, 3) := by decide +kernel
theorem dX8_underRoof_9 : decode cX8_underRoof 9 = .ok (.iconst 5, 1) := by decide +kernel
theorem dX8_underRoof_10 : decode cX8_underRoof 10 = .ok (.iaload, 1) := by decide +kernel
theorem dX8_underRoof_11 : decode cX8_underRoof 11 = .ok (.if_icmp .ge 26, 3) := by decide +kernel
theorem dX8_underRoof_14 : decode cX8_underRoof 14 = .ok (.iload_n 1, 1) := by decide +kernel
theorem dX8_underRoof_15 : decode cX8_underRoof 15 = .ok (.aload_n 0, 1) := by decide +kernel
theorem dX8_underRoof_16 : decode cX8_underRoof 16 = .ok (.iload_n 2, 1) := by decide +kernel
theorem dX8_underRoof_17 : decode cX8_underRoof 17 = .ok (.iconst 1, 1) := by decide +kernel
theorem dX8_underRoof_18 : decode cX8_underRoof 18 = .ok (.invokevirtual 50, 3) := by decide +kernel
theorem dX8_underRoof_21 : decode cX8_underRoof 21 = .ok (.ifCond .eq 7, 3) := by decide +kernel
theorem dX8_underRoof_24 : decode cX8_underRoof 24 = .ok (.iconst 1, 1) := by decide +kernel
theorem dX8_underRoof_25 : decode cX8_underRoof 25 = .ok (.goto 4, 3) := by decide +kernel
theorem dX8_underRoof_28 : decode cX8_underRoof 28 = .ok (.iconst 0, 1) := by decide +kernel
theorem dX8_underRoof_29 : decode cX8_underRoof 29 = .ok (.iadd, 1) := by decide +kernel
theorem dX8_underRoof_30 : decode cX8_underRoof 30 = .ok (.istore_n 1, 1) := by decide +kernel
theorem dX8_underRoof_31 : decode cX8_underRoof 31 = .ok (.iinc 2 1, 3) := by decide +kernel
theorem dX8_underRoof_34 : decode cX8_underRoof 34 = .ok (.goto (-30), 3) := by decide +kernel
theorem dX8_underRoof_37 : decode cX8_underRoof 37 = .ok (.iload_n 1, 1) := by decide +kernel
theorem dX8_underRoof_38 : decode cX8_underRoof 38 = .ok (.ireturn, 1) := by decide +kernel
theorem dX8_isSize_0 : decode cX8_isSize 0 = .ok (.iload_n 0, 1) := by decide +kernel
theorem dX8_isSize_1 : decode cX8_isSize 1 = .ok (.iconst 1, 1) := by decide +kernel
theorem dX8_isSize_2 : decode cX8_isSize 2 = .ok (.sipush 300, 3) := by decide +kernel
theorem dX8_isSize_5 : decode cX8_isSize 5 = .ok (.invokestatic 39, 3) := by decide +kernel
theorem dX8_isSize_8 : decode cX8_isSize 8 = .ok (.ireturn, 1) := by decide +kernel
theorem dX8_newBlock_0 : decode cX8_newBlock 0 = .ok (.aload_n 0, 1) := by decide +kernel
theorem dX8_newBlock_1 : decode cX8_newBlock 1 = .ok (.getfield 7, 3) := by decide +kernel
theorem dX8_newBlock_4 : decode cX8_newBlock 4 = .ok (.iconst 5, 1) := by decide +kernel
theorem dX8_newBlock_5 : decode cX8_newBlock 5 = .ok (.iaload, 1) := by decide +kernel
theorem dX8_newBlock_6 : decode cX8_newBlock 6 = .ok (.istore 5, 2) := by decide +kernel
theorem dX8_newBlock_8 : decode cX8_newBlock 8 = .ok (.aload_n 0, 1) := by decide +kernel
theorem dX8_newBlock_9 : decode cX8_newBlock 9 = .ok (.getfield 7, 3) := by decide +kernel
theorem dX8_newBlock_12 : decode cX8_newBlock 12 = .ok (.iconst 5, 1) := by decide +kernel
theorem dX8_newBlock_13 : decode cX8_newBlock 13 = .ok (.dup2, 1) := by decide +kernel
theorem dX8_newBlock_14 : decode cX8_newBlock 14 = .ok (.iaload, 1) := by decide +kernel
theorem dX8_newBlock_15 : decode cX8_newBlock 15 = .ok (.iconst 1, 1) := by decide +kernel
theorem dX8_newBlock_16 : decode cX8_newBlock 16 = .ok (.iadd, 1) := by decide +kernel
theorem dX8_newBlock_17 : decode cX8_newBlock 17 = .ok (.iastore, 1) := by decide +kernel
theorem dX8_newBlock_18 : decode cX8_newBlock 18 = .ok (.iconst 0, 1) := by decide +kernel
theorem dX8_newBlock_19 : decode cX8_newBlock 19 = .ok (.istore 6, 2) := by decide +kernel
theorem dX8_newBlock_21 : decode cX8_newBlock 21 = .ok (.iload 6, 2) := by decide +kernel
theorem dX8_newBlock_23 : decode cX8_newBlock 23 = .ok (.bipush 10, 2) := by decide +kernel
theorem dX8_newBlock_25 : decode cX8_newBlock 25 = .ok (.if_icmp .ge 22, 3) := by decide +kernel
theorem dX8_newBlock_28 : decode cX8_newBlock 28 = .ok (.aload_n 0, 1) := by decide +kernel
theorem dX8_newBlock_29 : decode cX8_newBlock 29 = .ok (.getfield 7, 3) := by decide +kernel
theorem dX8_newBlock_32 : decode cX8_newBlock 32 = .ok (.iload 5, 2) := by decide +kernel
theorem dX8_newBlock_34 : decode cX8_newBlock 34 = .ok (.iload 6, 2) := by decide +kernel
theorem dX8_newBlock_36 : decode cX8_newBlock 36 = .ok (.invokestatic 47, 3) := by decide +kernel
theorem dX8_newBlock_39 : decode cX8_newBlock 39 = .ok (.iconst 0, 1) := by decide +kernel
theorem dX8_newBlock_40 : decode cX8_newBlock 40 = .ok (.iastore, 1) := by decide +kernel
theorem dX8_newBlock_41 : decode cX8_newBlock 41 = .ok (.iinc 6 1, 3) := by decide +kernel
theorem dX8_newBlock_44 : decode cX8_newBlock 44 = .ok (.goto (-23), 3) := by decide +kernel
theorem dX8_newBlock_47 : decode cX8_newBlock 47 = .ok (.aload_n 0, 1) := by decide +kernel
theorem dX8_newBlock_48 : decode cX8_newBlock 48 = .ok (.getfield 7, 3) := by decide +kernel
theorem dX8_newBlock_51 : decode cX8_newBlock 51 = .ok (.iload 5, 2) := by decide +kernel
theorem dX8_newBlock_53 : decode cX8_newBlock 53 = .ok (.iconst 0, 1) := by decide +kernel
theorem dX8_newBlock_54 : decode cX8_newBlock 54 = .ok (.invokestatic 47, 3) := by decide +kernel
theorem dX8_newBlock_57 : decode cX8_newBlock 57 = .ok (.iload_n 1, 1) := by decide +kernel
theorem dX8_newBlock_58 : decode cX8_newBlock 58 = .ok (.iastore, 1) := by decide +kernel
theorem dX8_newBlock_59 : decode cX8_newBlock 59 = .ok (.aload_n 0, 1) := by decide +kernel
theorem dX8_newBlock_60 : decode cX8_newBlock 60 = .ok (.getfield 7, 3) := by decide +kernel
theorem dX8_newBlock_63 : decode cX8_newBlock 63 = .ok (.iload 5, 2) := by decide +kernel
theorem dX8_newBlock_65 : decode cX8_newBlock 65 = .ok (.iconst 1, 1) := by decide +kernel
theorem dX8_newBlock_66 : decode cX8_newBlock 66 = .ok (.invokestatic 47, 3) := by decide +kernel
theorem dX8_newBlock_69 : decode cX8_newBlock 69 = .ok (.iload_n 2, 1) := by decide +kernel
theorem dX8_newBlock_70 : decode cX8_newBlock 70 = .ok (.iastore, 1) := by decide +kernel
theorem dX8_newBlock_71 : decode cX8_newBlock 71 = .ok (.aload_n 0, 1) := by decide +kernel
theorem dX8_newBlock_72 : decode cX8_newBlock 72 = .ok (.getfield 7, 3) := by decide +kernel
theorem dX8_newBlock_75 : decode cX8_newBlock 75 = .ok (.iload 5, 2) := by decide +kernel
theorem dX8_newBlock_77 : decode cX8_newBlock 77 = .ok (.iconst 2, 1) := by decide +kernel
theorem dX8_newBlock_78 : decode cX8_newBlock 78 = .ok (.invokestatic 47, 3) := by decide +kernel
theorem dX8_newBlock_81 : decode cX8_newBlock 81 = .ok (.iload_n 3, 1) := by decide +kernel
theorem dX8_newBlock_82 : decode cX8_newBlock 82 = .ok (.iastore, 1) := by decide +kernel
theorem dX8_newBlock_83 : decode cX8_newBlock 83 = .ok (.aload_n 0, 1) := by decide +kernel
theorem dX8_newBlock_84 : decode cX8_newBlock 84 = .ok (.getfield 7, 3) := by decide +kernel
theorem dX8_newBlock_87 : decode cX8_newBlock 87 = .ok (.iload 5, 2) := by decide +kernel
theorem dX8_newBlock_89 : decode cX8_newBlock 89 = .ok (.iconst 3, 1) := by decide +kernel
theorem dX8_newBlock_90 : decode cX8_newBlock 90 = .ok (.invokestatic 47, 3) := by decide +kernel
theorem dX8_newBlock_93 : decode cX8_newBlock 93 = .ok (.iload 4, 2) := by decide +kernel
theorem dX8_newBlock_95 : decode cX8_newBlock 95 = .ok (.iastore, 1) := by decide +kernel
theorem dX8_newBlock_96 : decode cX8_newBlock 96 = .ok (.aload_n 0, 1) := by decide +kernel
theorem dX8_newBlock_97 : decode cX8_newBlock 97 = .ok (.getfield 7, 3) := by decide +kernel
theorem dX8_newBlock_100 : decode cX8_newBlock 100 = .ok (.iload 5, 2) := by decide +kernel
theorem dX8_newBlock_102 : decode cX8_newBlock 102 = .ok (.bipush 7, 2) := by decide +kernel
theorem dX8_newBlock_104 : decode cX8_newBlock 104 = .ok (.invokestatic 47, 3) := by decide +kernel
theorem dX8_newBlock_107 : decode cX8_newBlock 107 = .ok (.bipush (-6), 2) := by decide +kernel
theorem dX8_newBlock_109 : decode cX8_newBlock 109 = .ok (.iastore, 1) := by decide +kernel
theorem dX8_newBlock_110 : decode cX8_newBlock 110 = .ok (.aload_n 0, 1) := by decide +kernel
theorem dX8_newBlock_111 : decode cX8_newBlock 111 = .ok (.getfield 7, 3) := by decide +kernel
theorem dX8_newBlock_114 : decode cX8_newBlock 114 = .ok (.iload 5, 2) := by decide +kernel
theorem dX8_newBlock_116 : decode cX8_newBlock 116 = .ok (.bipush 8, 2) := by decide +kernel
theorem dX8_newBlock_118 : decode cX8_newBlock 118 = .ok (.invokestatic 47, 3) := by decide +kernel
theorem dX8_newBlock_121 : decode cX8_newBlock 121 = .ok (.bipush (-6), 2) := by decide +kernel
theorem dX8_newBlock_123 : decode cX8_newBlock 123 = .ok (.iastore, 1) := by decide +kernel
theorem dX8_newBlock_124 : decode cX8_newBlock 124 = .ok (.aload_n 0, 1) := by decide +kernel
theorem dX8_newBlock_125 : decode cX8_newBlock 125 = .ok (.getfield 7, 3) := by decide +kernel
theorem dX8_newBlock_128 : decode cX8_newBlock 128 = .ok (.iload 5, 2) := by decide +kernel
theorem dX8_newBlock_130 : decode cX8_newBlock 130 = .ok (.bipush 9, 2) := by decide +kernel
theorem dX8_newBlock_132 : decode cX8_newBlock 132 = .ok (.invokestatic 47, 3) := by decide +kernel
theorem dX8_newBlock_135 : decode cX8_newBlock 135 = .ok (.bipush (-6), 2) := by decide +kernel
theorem dX8_newBlock_137 : decode cX8_newBlock 137 = .ok (.iastore, 1) := by decide +kernel
theorem dX8_newBlock_138 : decode cX8_newBlock 138 = .ok (.iload 5, 2) := by decide +kernel
theorem dX8_newBlock_140 : decode cX8_newBlock 140 = .ok (.ireturn, 1) := by decide +kernel
theorem dX8_part_0 : decode cX8_part 0 = .ok (.aload_n 0, 1) := by decide +kernel
theorem dX8_part_1 : decode cX8_part 1 = .ok (.aload_n 0, 1) := by decide +kernel
theorem dX8_part_2 : decode cX8_part 2 = .ok (.getfield 7, 3) := by decide +kernel
theorem dX8_part_5 : decode cX8_part 5 = .ok (.iload_n 1, 1) := by decide +kernel
theorem dX8_part_6 : decode cX8_part 6 = .ok (.iconst 0, 1) := by decide +kernel
theorem dX8_part_7 : decode cX8_part 7 = .ok (.invokestatic 47, 3) := by decide +kernel
theorem dX8_part_10 : decode cX8_part 10 = .ok (.iaload, 1) := by decide +kernel
theorem dX8_part_11 : decode cX8_part 11 = .ok (.aload_n 0, 1) := by decide +kernel
theorem dX8_part_12 : decode cX8_part 12 = .ok (.getfield 7, 3) := by decide +kernel
theorem dX8_part_15 : decode cX8_part 15 = .ok (.iload_n 1, 1) := by decide +kernel
theorem dX8_part_16 : decode cX8_part 16 = .ok (.iconst 1, 1) := by decide +kernel
theorem dX8_part_17 : decode cX8_part 17 = .ok (.invokestatic 47, 3) := by decide +kernel
theorem dX8_part_20 : decode cX8_part 20 = .ok (.iaload, 1) := by decide +kernel
theorem dX8_part_21 : decode cX8_part 21 = .ok (.aload_n 0, 1) := by decide +kernel
theorem dX8_part_22 : decode cX8_part 22 = .ok (.getfield 7, 3) := by decide +kernel
theorem dX8_part_25 : decode cX8_part 25 = .ok (.iload_n 1, 1) := by decide +kernel
theorem dX8_part_26 : decode cX8_part 26 = .ok (.iconst 2, 1) := by decide +kernel
theorem dX8_part_27 : decode cX8_part 27 = .ok (.invokestatic 47, 3) := by decide +kernel
theorem dX8_part_30 : decode cX8_part 30 = .ok (.iaload, 1) := by decide +kernel
theorem dX8_part_31 : decode cX8_part 31 = .ok (.aload_n 0, 1) := by decide +kernel
theorem dX8_part_32 : decode cX8_part 32 = .ok (.getfield 7, 3) := by decide +kernel
theorem dX8_part_35 : decode cX8_part 35 = .ok (.iload_n 1, 1) := by decide +kernel
theorem dX8_part_36 : decode cX8_part 36 = .ok (.iconst 3, 1) := by decide +kernel
theorem dX8_part_37 : decode cX8_part 37 = .ok (.invokestatic 47, 3) := by decide +kernel
theorem dX8_part_40 : decode cX8_part 40 = .ok (.iaload, 1) := by decide +kernel
theorem dX8_part_41 : decode cX8_part 41 = .ok (.invokevirtual 54, 3) := by decide +kernel
theorem dX8_part_44 : decode cX8_part 44 = .ok (.istore 4, 2) := by decide +kernel
theorem dX8_part_46 : decode cX8_part 46 = .ok (.aload_n 0, 1) := by decide +kernel
theorem dX8_part_47 : decode cX8_part 47 = .ok (.getfield 7, 3) := by decide +kernel
theorem dX8_part_50 : decode cX8_part 50 = .ok (.iload 4, 2) := by decide +kernel
theorem dX8_part_52 : decode cX8_part 52 = .ok (.iload_n 2, 1) := by decide +kernel
theorem dX8_part_53 : decode cX8_part 53 = .ok (.invokestatic 47, 3) := by decide +kernel
theorem dX8_part_56 : decode cX8_part 56 = .ok (.iload_n 3, 1) := by decide +kernel
theorem dX8_part_57 : decode cX8_part 57 = .ok (.iastore, 1) := by decide +kernel
theorem dX8_part_58 : decode cX8_part 58 = .ok (.aload_n 0, 1) := by decide +kernel
theorem dX8_part_59 : decode cX8_part 59 = .ok (.getfield 7, 3) := by decide +kernel
theorem dX8_part_62 : decode cX8_part 62 = .ok (.iload 4, 2) := by decide +kernel
theorem dX8_part_64 : decode cX8_part 64 = .ok (.iconst 5, 1) := by decide +kernel
theorem dX8_part_65 : decode cX8_part 65 = .ok (.invokestatic 47, 3) := by decide +kernel
theorem dX8_part_68 : decode cX8_part 68 = .ok (.aload_n 0, 1) := by decide +kernel
theorem dX8_part_69 : decode cX8_part 69 = .ok (.getfield 7, 3) := by decide +kernel
theorem dX8_part_72 : decode cX8_part 72 = .ok (.iload_n 1, 1) := by decide +kernel
theorem dX8_part_73 : decode cX8_part 73 = .ok (.iconst 5, 1) := by decide +kernel
theorem dX8_part_74 : decode cX8_part 74 = .ok (.invokestatic 47, 3) := by decide +kernel
theorem dX8_part_77 : decode cX8_part 77 = .ok (.iaload, 1) := by decide +kernel
theorem dX8_part_78 : decode cX8_part 78 = .ok (.iastore, 1) := by decide +kernel
theorem dX8_part_79 : decode cX8_part 79 = .ok (.aload_n 0, 1) := by decide +kernel
theorem dX8_part_80 : decode cX8_part 80 = .ok (.getfield 7, 3) := by decide +kernel
theorem dX8_part_83 : decode cX8_part 83 = .ok (.iload 4, 2) := by decide +kernel
theorem dX8_part_85 : decode cX8_part 85 = .ok (.bipush 6, 2) := by decide +kernel
theorem dX8_part_87 : decode cX8_part 87 = .ok (.invokestatic 47, 3) := by decide +kernel
theorem dX8_part_90 : decode cX8_part 90 = .ok (.aload_n 0, 1) := by decide +kernel
theorem dX8_part_91 : decode cX8_part 91 = .ok (.getfield 7, 3) := by decide +kernel
theorem dX8_part_94 : decode cX8_part 94 = .ok (.iload_n 1, 1) := by decide +kernel
theorem dX8_part_95 : decode cX8_part 95 = .ok (.bipush 6, 2) := by decide +kernel
theorem dX8_part_97 : decode cX8_part 97 = .ok (.invokestatic 47, 3) := by decide +kernel
theorem dX8_part_100 : decode cX8_part 100 = .ok (.iaload, 1) := by decide +kernel
theorem dX8_part_101 : decode cX8_part 101 = .ok (.iastore, 1) := by decide +kernel
theorem dX8_part_102 : decode cX8_part 102 = .ok (.aload_n 0, 1) := by decide +kernel
theorem dX8_part_103 : decode cX8_part 103 = .ok (.getfield 7, 3) := by decide +kernel
theorem dX8_part_106 : decode cX8_part 106 = .ok (.iload 4, 2) := by decide +kernel
theorem dX8_part_108 : decode cX8_part 108 = .ok (.bipush 9, 2) := by decide +kernel
theorem dX8_part_110 : decode cX8_part 110 = .ok (.invokestatic 47, 3) := by decide +kernel
theorem dX8_part_113 : decode cX8_part 113 = .ok (.iload_n 1, 1) := by decide +kernel
theorem dX8_part_114 : decode cX8_part 114 = .ok (.iastore, 1) := by decide +kernel
theorem dX8_part_115 : decode cX8_part 115 = .ok (.aload_n 0, 1) := by decide +kernel
theorem dX8_part_116 : decode cX8_part 116 = .ok (.getfield 7, 3) := by decide +kernel
theorem dX8_part_119 : decode cX8_part 119 = .ok (.bipush 9, 2) := by decide +kernel
theorem dX8_part_121 : decode cX8_part 121 = .ok (.dup2, 1) := by decide +kernel
theorem dX8_part_122 : decode cX8_part 122 = .ok (.iaload, 1) := by decide +kernel
theorem dX8_part_123 : decode cX8_part 123 = .ok (.aload_n 0, 1) := by decide +kernel
theorem dX8_part_124 : decode cX8_part 124 = .ok (.iload 4, 2) := by decide +kernel
theorem dX8_part_126 : decode cX8_part 126 = .ok (.invokevirtual 58, 3) := by decide +kernel
theorem dX8_part_129 : decode cX8_part 129 = .ok (.isub, 1) := by decide +kernel
theorem dX8_part_130 : decode cX8_part 130 = .ok (.iastore, 1) := by decide +kernel
theorem dX8_part_131 : decode cX8_part 131 = .ok (.return_, 1) := by decide +kernel
theorem dX8_sorts_0 : decode cX8_sorts 0 = .ok (.iload_n 1, 1) := by decide +kernel
theorem dX8_sorts_1 : decode cX8_sorts 1 = .ok (.iload_n 2, 1) := by decide +kernel
theorem dX8_sorts_2 : decode cX8_sorts 2 = .ok (.if_icmp .le 7, 3) := by decide +kernel
theorem dX8_sorts_5 : decode cX8_sorts 5 = .ok (.iload_n 1, 1) := by decide +kernel
theorem dX8_sorts_6 : decode cX8_sorts 6 = .ok (.goto 4, 3) := by decide +kernel
theorem dX8_sorts_9 : decode cX8_sorts 9 = .ok (.iload_n 2, 1) := by decide +kernel
theorem dX8_sorts_10 : decode cX8_sorts 10 = .ok (.istore 4, 2) := by decide +kernel
theorem dX8_sorts_12 : decode cX8_sorts 12 = .ok (.iload_n 1, 1) := by decide +kernel
theorem dX8_sorts_13 : decode cX8_sorts 13 = .ok (.iload_n 2, 1) := by decide +kernel
theorem dX8_sorts_14 : decode cX8_sorts 14 = .ok (.if_icmp .le 7, 3) := by decide +kernel
theorem dX8_sorts_17 : decode cX8_sorts 17 = .ok (.iload_n 2, 1) := by decide +kernel
theorem dX8_sorts_18 : decode cX8_sorts 18 = .ok (.goto 4, 3) := by decide +kernel
theorem dX8_sorts_21 : decode cX8_sorts 21 = .ok (.iload_n 1, 1) := by decide +kernel
theorem dX8_sorts_22 : decode cX8_sorts 22 = .ok (.istore 5, 2) := by decide +kernel
theorem dX8_sorts_24 : decode cX8_sorts 24 = .ok (.aload_n 0, 1) := by decide +kernel
theorem dX8_sorts_25 : decode cX8_sorts 25 = .ok (.getfield 29, 3) := by decide +kernel
theorem dX8_sorts_28 : decode cX8_sorts 28 = .ok (.iconst 0, 1) := by decide +kernel
theorem dX8_sorts_29 : decode cX8_sorts 29 = .ok (.iload_n 3, 1) := by decide +kernel
theorem dX8_sorts_30 : decode cX8_sorts 30 = .ok (.iload 4, 2) := by decide +kernel
theorem dX8_sorts_32 : decode cX8_sorts 32 = .ok (.if_icmp .le 7, 3) := by decide +kernel
theorem dX8_sorts_35 : decode cX8_sorts 35 = .ok (.iload_n 3, 1) := by decide +kernel
theorem dX8_sorts_36 : decode cX8_sorts 36 = .ok (.goto 5, 3) := by decide +kernel
theorem dX8_sorts_39 : decode cX8_sorts 39 = .ok (.iload 4, 2) := by decide +kernel
theorem dX8_sorts_41 : decode cX8_sorts 41 = .ok (.iastore, 1) := by decide +kernel
theorem dX8_sorts_42 : decode cX8_sorts 42 = .ok (.aload_n 0, 1) := by decide +kernel
theorem dX8_sorts_43 : decode cX8_sorts 43 = .ok (.getfield 29, 3) := by decide +kernel
theorem dX8_sorts_46 : decode cX8_sorts 46 = .ok (.iconst 2, 1) := by decide +kernel
theorem dX8_sorts_47 : decode cX8_sorts 47 = .ok (.iload_n 3, 1) := by decide +kernel
theorem dX8_sorts_48 : decode cX8_sorts 48 = .ok (.iload 5, 2) := by decide +kernel
theorem dX8_sorts_50 : decode cX8_sorts 50 = .ok (.if_icmp .ge 7, 3) := by decide +kernel
theorem dX8_sorts_53 : decode cX8_sorts 53 = .ok (.iload_n 3, 1) := by decide +kernel
theorem dX8_sorts_54 : decode cX8_sorts 54 = .ok (.goto 5, 3) := by decide +kernel
theorem dX8_sorts_57 : decode cX8_sorts 57 = .ok (.iload 5, 2) := by decide +kernel
theorem dX8_sorts_59 : decode cX8_sorts 59 = .ok (.iastore, 1) := by decide +kernel
theorem dX8_sorts_60 : decode cX8_sorts 60 = .ok (.aload_n 0, 1) := by decide +kernel
theorem dX8_sorts_61 : decode cX8_sorts 61 = .ok (.getfield 29, 3) := by decide +kernel
theorem dX8_sorts_64 : decode cX8_sorts 64 = .ok (.iconst 1, 1) := by decide +kernel
theorem dX8_sorts_65 : decode cX8_sorts 65 = .ok (.iload_n 1, 1) := by decide +kernel
theorem dX8_sorts_66 : decode cX8_sorts 66 = .ok (.iload_n 2, 1) := by decide +kernel
theorem dX8_sorts_67 : decode cX8_sorts 67 = .ok (.iadd, 1) := by decide +kernel
theorem dX8_sorts_68 : decode cX8_sorts 68 = .ok (.iload_n 3, 1) := by decide +kernel
theorem dX8_sorts_69 : decode cX8_sorts 69 = .ok (.iadd, 1) := by decide +kernel
theorem dX8_sorts_70 : decode cX8_sorts 70 = .ok (.aload_n 0, 1) := by decide +kernel
theorem dX8_sorts_71 : decode cX8_sorts 71 = .ok (.getfield 29, 3) := by decide +kernel
theorem dX8_sorts_74 : decode cX8_sorts 74 = .ok (.iconst 0, 1) := by decide +kernel
theorem dX8_sorts_75 : decode cX8_sorts 75 = .ok (.iaload, 1) := by decide +kernel
theorem dX8_sorts_76 : decode cX8_sorts 76 = .ok (.isub, 1) := by decide +kernel
theorem dX8_sorts_77 : decode cX8_sorts 77 = .ok (.aload_n 0, 1) := by decide +kernel
theorem dX8_sorts_78 : decode cX8_sorts 78 = .ok (.getfield 29, 3) := by decide +kernel
theorem dX8_sorts_81 : decode cX8_sorts 81 = .ok (.iconst 2, 1) := by decide +kernel
theorem dX8_sorts_82 : decode cX8_sorts 82 = .ok (.iaload, 1) := by decide +kernel
theorem dX8_sorts_83 : decode cX8_sorts 83 = .ok (.isub, 1) := by decide +kernel
theorem dX8_sorts_84 : decode cX8_sorts 84 = .ok (.iastore, 1) := by decide +kernel
theorem dX8_sorts_85 : decode cX8_sorts 85 = .ok (.return_, 1) := by decide +kernel
theorem dX8_excess_0 : decode cX8_excess 0 = .ok (.aload_n 0, 1) := by decide +kernel
theorem dX8_excess_1 : decode cX8_excess 1 = .ok (.iload_n 2, 1) := by decide +kernel
theorem dX8_excess_2 : decode cX8_excess 2 = .ok (.iload_n 3, 1) := by decide +kernel
theorem dX8_excess_3 : decode cX8_excess 3 = .ok (.iload 4, 2) := by decide +kernel
theorem dX8_excess_5 : decode cX8_excess 5 = .ok (.invokevirtual 62, 3) := by decide +kernel
theorem dX8_excess_8 : decode cX8_excess 8 = .ok (.iconst 0, 1) := by decide +kernel
theorem dX8_excess_9 : decode cX8_excess 9 = .ok (.istore 5, 2) := by decide +kernel
theorem dX8_excess_11 : decode cX8_excess 11 = .ok (.iconst 1, 1) := by decide +kernel
theorem dX8_excess_12 : decode cX8_excess 12 = .ok (.istore 6, 2) := by decide +kernel
theorem dX8_excess_14 : decode cX8_excess 14 = .ok (.iconst 0, 1) := by decide +kernel
theorem dX8_excess_15 : decode cX8_excess 15 = .ok (.istore 7, 2) := by decide +kernel
theorem dX8_excess_17 : decode cX8_excess 17 = .ok (.iload 7, 2) := by decide +kernel
theorem dX8_excess_19 : decode cX8_excess 19 = .ok (.iconst 3, 1) := by decide +kernel
theorem dX8_excess_20 : decode cX8_excess 20 = .ok (.if_icmp .ge 64, 3) := by decide +kernel
theorem dX8_excess_23 : decode cX8_excess 23 = .ok (.aload_n 0, 1) := by decide +kernel
theorem dX8_excess_24 : decode cX8_excess 24 = .ok (.getfield 29, 3) := by decide +kernel
theorem dX8_excess_27 : decode cX8_excess 27 = .ok (.iload 7, 2) := by decide +kernel
theorem dX8_excess_29 : decode cX8_excess 29 = .ok (.iaload, 1) := by decide +kernel
theorem dX8_excess_30 : decode cX8_excess 30 = .ok (.aload_n 0, 1) := by decide +kernel
theorem dX8_excess_31 : decode cX8_excess 31 = .ok (.getfield 7, 3) := by decide +kernel
theorem dX8_excess_34 : decode cX8_excess 34 = .ok (.iload_n 1, 1) := by decide +kernel
theorem dX8_excess_35 : decode cX8_excess 35 = .ok (.iload 7, 2) := by decide +kernel
theorem dX8_excess_37 : decode cX8_excess 37 = .ok (.invokestatic 66, 3) := by decide +kernel
theorem dX8_excess_40 : decode cX8_excess 40 = .ok (.iaload, 1) := by decide +kernel
theorem dX8_excess_41 : decode cX8_excess 41 = .ok (.isub, 1) := by decide +kernel
theorem dX8_excess_42 : decode cX8_excess 42 = .ok (.istore 8, 2) := by decide +kernel
theorem dX8_excess_44 : decode cX8_excess 44 = .ok (.iload 6, 2) := by decide +kernel
theorem dX8_excess_46 : decode cX8_excess 46 = .ok (.ifCond .eq 22, 3) := by decide +kernel
theorem dX8_excess_49 : decode cX8_excess 49 = .ok (.iload 8, 2) := by decide +kernel
theorem dX8_excess_51 : decode cX8_excess 51 = .ok (.iconst 0, 1) := by decide +kernel
theorem dX8_excess_52 : decode cX8_excess 52 = .ok (.aload_n 0, 1) := by decide +kernel
theorem dX8_excess_53 : decode cX8_excess 53 = .ok (.getfield 7, 3) := by decide +kernel
theorem dX8_excess_56 : decode cX8_excess 56 = .ok (.iconst 3, 1) := by decide +kernel
theorem dX8_excess_57 : decode cX8_excess 57 = .ok (.iaload, 1) := by decide +kernel
theorem dX8_excess_58 : decode cX8_excess 58 = .ok (.invokestatic 39, 3) := by decide +kernel
theorem dX8_excess_61 : decode cX8_excess 61 = .ok (.ifCond .eq 7, 3) := by decide +kernel
theorem dX8_excess_64 : decode cX8_excess 64 = .ok (.iconst 1, 1) := by decide +kernel
theorem dX8_excess_65 : decode cX8_excess 65 = .ok (.goto 4, 3) := by decide +kernel
theorem dX8_excess_68 : decode cX8_excess 68 = .ok (.iconst 0, 1) := by decide +kernel
theorem dX8_excess_69 : decode cX8_excess 69 = .ok (.istore 6, 2) := by decide +kernel
theorem dX8_excess_71 : decode cX8_excess 71 = .ok (.iload 5, 2) := by decide +kernel
theorem dX8_excess_73 : decode cX8_excess 73 = .ok (.iload 8, 2) := by decide +kernel
theorem dX8_excess_75 : decode cX8_excess 75 = .ok (.iadd, 1) := by decide +kernel
theorem dX8_excess_76 : decode cX8_excess 76 = .ok (.istore 5, 2) := by decide +kernel
theorem dX8_excess_78 : decode cX8_excess 78 = .ok (.iinc 7 1, 3) := by decide +kernel
theorem dX8_excess_81 : decode cX8_excess 81 = .ok (.goto (-64), 3) := by decide +kernel
theorem dX8_excess_84 : decode cX8_excess 84 = .ok (.iload 6, 2) := by decide +kernel
theorem dX8_excess_86 : decode cX8_excess 86 = .ok (.ifCond .eq 8, 3) := by decide +kernel
theorem dX8_excess_89 : decode cX8_excess 89 = .ok (.iload 5, 2) := by decide +kernel
theorem dX8_excess_91 : decode cX8_excess 91 = .ok (.goto 5, 3) := by decide +kernel
theorem dX8_excess_94 : decode cX8_excess 94 = .ok (.bipush (-6), 2) := by decide +kernel
theorem dX8_excess_96 : decode cX8_excess 96 = .ok (.ireturn, 1) := by decide +kernel
theorem dX8_excessOf_0 : decode cX8_excessOf 0 = .ok (.aload_n 0, 1) := by decide +kernel
theorem dX8_excessOf_1 : decode cX8_excessOf 1 = .ok (.getfield 7, 3) := by decide +kernel
theorem dX8_excessOf_4 : decode cX8_excessOf 4 = .ok (.iload_n 2, 1) := by decide +kernel
theorem dX8_excessOf_5 : decode cX8_excessOf 5 = .ok (.bipush 6, 2) := by decide +kernel
theorem dX8_excessOf_7 : decode cX8_excessOf 7 = .ok (.invokestatic 47, 3) := by decide +kernel
theorem dX8_excessOf_10 : decode cX8_excessOf 10 = .ok (.iaload, 1) := by decide +kernel
theorem dX8_excessOf_11 : decode cX8_excessOf 11 = .ok (.iconst 1, 1) := by decide +kernel
theorem dX8_excessOf_12 : decode cX8_excessOf 12 = .ok (.if_icmp .ne 8, 3) := by decide +kernel
theorem dX8_excessOf_15 : decode cX8_excessOf 15 = .ok (.bipush (-6), 2) := by decide +kernel
theorem dX8_excessOf_17 : decode cX8_excessOf 17 = .ok (.goto 38, 3) := by decide +kernel
theorem dX8_excessOf_20 : decode cX8_excessOf 20 = .ok (.aload_n 0, 1) := by decide +kernel
theorem dX8_excessOf_21 : decode cX8_excessOf 21 = .ok (.iload_n 1, 1) := by decide +kernel
theorem dX8_excessOf_22 : decode cX8_excessOf 22 = .ok (.aload_n 0, 1) := by decide +kernel
theorem dX8_excessOf_23 : decode cX8_excessOf 23 = .ok (.getfield 7, 3) := by decide +kernel
theorem dX8_excessOf_26 : decode cX8_excessOf 26 = .ok (.iload_n 2, 1) := by decide +kernel
theorem dX8_excessOf_27 : decode cX8_excessOf 27 = .ok (.iconst 0, 1) := by decide +kernel
theorem dX8_excessOf_28 : decode cX8_excessOf 28 = .ok (.invokestatic 47, 3) := by decide +kernel
theorem dX8_excessOf_31 : decode cX8_excessOf 31 = .ok (.iaload, 1) := by decide +kernel
theorem dX8_excessOf_32 : decode cX8_excessOf 32 = .ok (.aload_n 0, 1) := by decide +kernel
theorem dX8_excessOf_33 : decode cX8_excessOf 33 = .ok (.getfield 7, 3) := by decide +kernel
theorem dX8_excessOf_36 : decode cX8_excessOf 36 = .ok (.iload_n 2, 1) := by decide +kernel
theorem dX8_excessOf_37 : decode cX8_excessOf 37 = .ok (.iconst 1, 1) := by decide +kernel
theorem dX8_excessOf_38 : decode cX8_excessOf 38 = .ok (.invokestatic 47, 3) := by decide +kernel
theorem dX8_excessOf_41 : decode cX8_excessOf 41 = .ok (.iaload, 1) := by decide +kernel
theorem dX8_excessOf_42 : decode cX8_excessOf 42 = .ok (.aload_n 0, 1) := by decide +kernel
theorem dX8_excessOf_43 : decode cX8_excessOf 43 = .ok (.getfield 7, 3) := by decide +kernel
theorem dX8_excessOf_46 : decode cX8_excessOf 46 = .ok (.iload_n 2, 1) := by decide +kernel
theorem dX8_excessOf_47 : decode cX8_excessOf 47 = .ok (.iconst 2, 1) := by decide +kernel
theorem dX8_excessOf_48 : decode cX8_excessOf 48 = .ok (.invokestatic 47, 3) := by decide +kernel
theorem dX8_excessOf_51 : decode cX8_excessOf 51 = .ok (.iaload, 1) := by decide +kernel
theorem dX8_excessOf_52 : decode cX8_excessOf 52 = .ok (.invokevirtual 69, 3) := by decide +kernel
theorem dX8_excessOf_55 : decode cX8_excessOf 55 = .ok (.ireturn, 1) := by decide +kernel
theorem dX8_canGive_0 : decode cX8_canGive 0 = .ok (.aload_n 0, 1) := by decide +kernel
theorem dX8_canGive_1 : decode cX8_canGive 1 = .ok (.getfield 7, 3) := by decide +kernel
theorem dX8_canGive_4 : decode cX8_canGive 4 = .ok (.iload_n 2, 1) := by decide +kernel
theorem dX8_canGive_5 : decode cX8_canGive 5 = .ok (.bipush 7, 2) := by decide +kernel
theorem dX8_canGive_7 : decode cX8_canGive 7 = .ok (.invokestatic 47, 3) := by decide +kernel
theorem dX8_canGive_10 : decode cX8_canGive 10 = .ok (.iaload, 1) := by decide +kernel
theorem dX8_canGive_11 : decode cX8_canGive 11 = .ok (.bipush (-6), 2) := by decide +kernel
theorem dX8_canGive_13 : decode cX8_canGive 13 = .ok (.if_icmp .ne 25, 3) := by decide +kernel
theorem dX8_canGive_16 : decode cX8_canGive 16 = .ok (.aload_n 0, 1) := by decide +kernel
theorem dX8_canGive_17 : decode cX8_canGive 17 = .ok (.iload_n 2, 1) := by decide +kernel
theorem dX8_canGive_18 : decode cX8_canGive 18 = .ok (.iconst 3, 1) := by decide +kernel
theorem dX8_canGive_19 : decode cX8_canGive 19 = .ok (.invokevirtual 50, 3) := by decide +kernel
theorem dX8_canGive_22 : decode cX8_canGive 22 = .ok (.ifCond .ne 16, 3) := by decide +kernel
theorem dX8_canGive_25 : decode cX8_canGive 25 = .ok (.aload_n 0, 1) := by decide +kernel
theorem dX8_canGive_26 : decode cX8_canGive 26 = .ok (.iload_n 2, 1) := by decide +kernel
theorem dX8_canGive_27 : decode cX8_canGive 27 = .ok (.iconst 4, 1) := by decide +kernel
theorem dX8_canGive_28 : decode cX8_canGive 28 = .ok (.invokevirtual 50, 3) := by decide +kernel
theorem dX8_canGive_31 : decode cX8_canGive 31 = .ok (.ifCond .ne 7, 3) := by decide +kernel
theorem dX8_canGive_34 : decode cX8_canGive 34 = .ok (.iconst 1, 1) := by decide +kernel
theorem dX8_canGive_35 : decode cX8_canGive 35 = .ok (.goto 4, 3) := by decide +kernel
theorem dX8_canGive_38 : decode cX8_canGive 38 = .ok (.iconst 0, 1) := by decide +kernel
theorem dX8_canGive_39 : decode cX8_canGive 39 = .ok (.istore_n 3, 1) := by decide +kernel
theorem dX8_canGive_40 : decode cX8_canGive 40 = .ok (.aload_n 0, 1) := by decide +kernel
theorem dX8_canGive_41 : decode cX8_canGive 41 = .ok (.getfield 7, 3) := by decide +kernel
theorem dX8_canGive_44 : decode cX8_canGive 44 = .ok (.iload_n 1, 1) := by decide +kernel
theorem dX8_canGive_45 : decode cX8_canGive 45 = .ok (.iconst 3, 1) := by decide +kernel
theorem dX8_canGive_46 : decode cX8_canGive 46 = .ok (.invokestatic 66, 3) := by decide +kernel
theorem dX8_canGive_49 : decode cX8_canGive 49 = .ok (.iaload, 1) := by decide +kernel
theorem dX8_canGive_50 : decode cX8_canGive 50 = .ok (.ifCond .ne 22, 3) := by decide +kernel
theorem dX8_canGive_53 : decode cX8_canGive 53 = .ok (.iload_n 3, 1) := by decide +kernel
theorem dX8_canGive_54 : decode cX8_canGive 54 = .ok (.ifCond .eq 18, 3) := by decide +kernel
theorem dX8_canGive_57 : decode cX8_canGive 57 = .ok (.aload_n 0, 1) := by decide +kernel
theorem dX8_canGive_58 : decode cX8_canGive 58 = .ok (.iload_n 1, 1) := by decide +kernel
theorem dX8_canGive_59 : decode cX8_canGive 59 = .ok (.iload_n 2, 1) := by decide +kernel
theorem dX8_canGive_60 : decode cX8_canGive 60 = .ok (.invokevirtual 72, 3) := by decide +kernel
theorem dX8_canGive_63 : decode cX8_canGive 63 = .ok (.bipush (-6), 2) := by decide +kernel
theorem dX8_canGive_65 : decode cX8_canGive 65 = .ok (.if_icmp .eq 7, 3) := by decide +kernel
theorem dX8_canGive_68 : decode cX8_canGive 68 = .ok (.iconst 1, 1) := by decide +kernel
theorem dX8_canGive_69 : decode cX8_canGive 69 = .ok (.goto 4, 3) := by decide +kernel
theorem dX8_canGive_72 : decode cX8_canGive 72 = .ok (.iconst 0, 1) := by decide +kernel
theorem dX8_canGive_73 : decode cX8_canGive 73 = .ok (.ireturn, 1) := by decide +kernel
theorem dX8_blockAt_0 : decode cX8_blockAt 0 = .ok (.bipush (-6), 2) := by decide +kernel
theorem dX8_blockAt_2 : decode cX8_blockAt 2 = .ok (.istore_n 3, 1) := by decide +kernel
theorem dX8_blockAt_3 : decode cX8_blockAt 3 = .ok (.iconst 0, 1) := by decide +kernel
theorem dX8_blockAt_4 : decode cX8_blockAt 4 = .ok (.istore 4, 2) := by decide +kernel
theorem dX8_blockAt_6 : decode cX8_blockAt 6 = .ok (.iload 4, 2) := by decide +kernel
theorem dX8_blockAt_8 : decode cX8_blockAt 8 = .ok (.aload_n 0, 1) := by decide +kernel
theorem dX8_blockAt_9 : decode cX8_blockAt 9 = .ok (.getfield 7, 3) := by decide +kernel
theorem dX8_blockAt_12 : decode cX8_blockAt 12 = .ok (.iconst 5, 1) := by decide +kernel
theorem dX8_blockAt_13 : decode cX8_blockAt 13 = .ok (.iaload, 1) := by decide +kernel
theorem dX8_blockAt_14 : decode cX8_blockAt 14 = .ok (.if_icmp .ge 36, 3) := by decide +kernel
theorem dX8_blockAt_17 : decode cX8_blockAt 17 = .ok (.aload_n 0, 1) := by decide +kernel
theorem dX8_blockAt_18 : decode cX8_blockAt 18 = .ok (.getfield 7, 3) := by decide +kernel
theorem dX8_blockAt_21 : decode cX8_blockAt 21 = .ok (.iload 4, 2) := by decide +kernel
theorem dX8_blockAt_23 : decode cX8_blockAt 23 = .ok (.bipush 8, 2) := by decide +kernel
theorem dX8_blockAt_25 : decode cX8_blockAt 25 = .ok (.invokestatic 47, 3) := by decide +kernel
theorem dX8_blockAt_28 : decode cX8_blockAt 28 = .ok (.iaload, 1) := by decide +kernel
theorem dX8_blockAt_29 : decode cX8_blockAt 29 = .ok (.iconst 5, 1) := by decide +kernel
theorem dX8_blockAt_30 : decode cX8_blockAt 30 = .ok (.iload_n 1, 1) := by decide +kernel
theorem dX8_blockAt_31 : decode cX8_blockAt 31 = .ok (.imul, 1) := by decide +kernel
theorem dX8_blockAt_32 : decode cX8_blockAt 32 = .ok (.iload_n 2, 1) := by decide +kernel
theorem dX8_blockAt_33 : decode cX8_blockAt 33 = .ok (.iadd, 1) := by decide +kernel
theorem dX8_blockAt_34 : decode cX8_blockAt 34 = .ok (.if_icmp .ne 8, 3) := by decide +kernel
theorem dX8_blockAt_37 : decode cX8_blockAt 37 = .ok (.iload 4, 2) := by decide +kernel
theorem dX8_blockAt_39 : decode cX8_blockAt 39 = .ok (.goto 4, 3) := by decide +kernel
theorem dX8_blockAt_42 : decode cX8_blockAt 42 = .ok (.iload_n 3, 1) := by decide +kernel
theorem dX8_blockAt_43 : decode cX8_blockAt 43 = .ok (.istore_n 3, 1) := by decide +kernel
theorem dX8_blockAt_44 : decode cX8_blockAt 44 = .ok (.iinc 4 1, 3) := by decide +kernel
theorem dX8_blockAt_47 : decode cX8_blockAt 47 = .ok (.goto (-41), 3) := by decide +kernel
theorem dX8_blockAt_50 : decode cX8_blockAt 50 = .ok (.iload_n 3, 1) := by decide +kernel
theorem dX8_blockAt_51 : decode cX8_blockAt 51 = .ok (.ireturn, 1) := by decide +kernel
theorem dX8_loadOf_0 : decode cX8_loadOf 0 = .ok (.iconst 0, 1) := by decide +kernel
theorem dX8_loadOf_1 : decode cX8_loadOf 1 = .ok (.istore_n 2, 1) := by decide +kernel
theorem dX8_loadOf_2 : decode cX8_loadOf 2 = .ok (.iconst 0, 1) := by decide +kernel
theorem dX8_loadOf_3 : decode cX8_loadOf 3 = .ok (.istore_n 3, 1) := by decide +kernel
theorem dX8_loadOf_4 : decode cX8_loadOf 4 = .ok (.iload_n 3, 1) := by decide +kernel
theorem dX8_loadOf_5 : decode cX8_loadOf 5 = .ok (.iconst 5, 1) := by decide +kernel
theorem dX8_loadOf_6 : decode cX8_loadOf 6 = .ok (.if_icmp .ge 37, 3) := by decide +kernel
theorem dX8_loadOf_9 : decode cX8_loadOf 9 = .ok (.iload_n 2, 1) := by decide +kernel
theorem dX8_loadOf_10 : decode cX8_loadOf 10 = .ok (.aload_n 0, 1) := by decide +kernel
theorem dX8_loadOf_11 : decode cX8_loadOf 11 = .ok (.iload_n 1, 1) := by decide +kernel
theorem dX8_loadOf_12 : decode cX8_loadOf 12 = .ok (.iload_n 3, 1) := by decide +kernel
theorem dX8_loadOf_13 : decode cX8_loadOf 13 = .ok (.invokevirtual 75, 3) := by decide +kernel
theorem dX8_loadOf_16 : decode cX8_loadOf 16 = .ok (.bipush (-6), 2) := by decide +kernel
theorem dX8_loadOf_18 : decode cX8_loadOf 18 = .ok (.if_icmp .ne 7, 3) := by decide +kernel
theorem dX8_loadOf_21 : decode cX8_loadOf 21 = .ok (.iconst 0, 1) := by decide +kernel
theorem dX8_loadOf_22 : decode cX8_loadOf 22 = .ok (.goto 13, 3) := by decide +kernel
theorem dX8_loadOf_25 : decode cX8_loadOf 25 = .ok (.aload_n 0, 1) := by decide +kernel
theorem dX8_loadOf_26 : decode cX8_loadOf 26 = .ok (.aload_n 0, 1) := by decide +kernel
theorem dX8_loadOf_27 : decode cX8_loadOf 27 = .ok (.iload_n 1, 1) := by decide +kernel
theorem dX8_loadOf_28 : decode cX8_loadOf 28 = .ok (.iload_n 3, 1) := by decide +kernel
theorem dX8_loadOf_29 : decode cX8_loadOf 29 = .ok (.invokevirtual 75, 3) := by decide +kernel
theorem dX8_loadOf_32 : decode cX8_loadOf 32 = .ok (.invokevirtual 58, 3) := by decide +kernel
theorem dX8_loadOf_35 : decode cX8_loadOf 35 = .ok (.iadd, 1) := by decide +kernel
theorem dX8_loadOf_36 : decode cX8_loadOf 36 = .ok (.istore_n 2, 1) := by decide +kernel
theorem dX8_loadOf_37 : decode cX8_loadOf 37 = .ok (.iinc 3 1, 3) := by decide +kernel
theorem dX8_loadOf_40 : decode cX8_loadOf 40 = .ok (.goto (-36), 3) := by decide +kernel
theorem dX8_loadOf_43 : decode cX8_loadOf 43 = .ok (.iload_n 2, 1) := by decide +kernel
theorem dX8_loadOf_44 : decode cX8_loadOf 44 = .ok (.ireturn, 1) := by decide +kernel
theorem dX8_axle_0 : decode cX8_axle 0 = .ok (.fconst 0, 1) := by decide +kernel
theorem dX8_axle_1 : decode cX8_axle 1 = .ok (.fstore 5, 2) := by decide +kernel
theorem dX8_axle_3 : decode cX8_axle 3 = .ok (.iconst 0, 1) := by decide +kernel
theorem dX8_axle_4 : decode cX8_axle 4 = .ok (.istore 6, 2) := by decide +kernel
theorem dX8_axle_6 : decode cX8_axle 6 = .ok (.iload 6, 2) := by decide +kernel
theorem dX8_axle_8 : decode cX8_axle 8 = .ok (.iconst 5, 1) := by decide +kernel
theorem dX8_axle_9 : decode cX8_axle 9 = .ok (.if_icmp .ge 72, 3) := by decide +kernel
theorem dX8_axle_12 : decode cX8_axle 12 = .ok (.iload 6, 2) := by decide +kernel
theorem dX8_axle_14 : decode cX8_axle 14 = .ok (.iload 4, 2) := by decide +kernel
theorem dX8_axle_16 : decode cX8_axle 16 = .ok (.if_icmp .ne 13, 3) := by decide +kernel
theorem dX8_axle_19 : decode cX8_axle 19 = .ok (.iload_n 3, 1) := by decide +kernel
theorem dX8_axle_20 : decode cX8_axle 20 = .ok (.bipush (-6), 2) := by decide +kernel
theorem dX8_axle_22 : decode cX8_axle 22 = .ok (.if_icmp .eq 7, 3) := by decide +kernel
theorem dX8_axle_25 : decode cX8_axle 25 = .ok (.iload_n 3, 1) := by decide +kernel
theorem dX8_axle_26 : decode cX8_axle 26 = .ok (.goto 10, 3) := by decide +kernel
theorem dX8_axle_29 : decode cX8_axle 29 = .ok (.aload_n 0, 1) := by decide +kernel
theorem dX8_axle_30 : decode cX8_axle 30 = .ok (.iload_n 1, 1) := by decide +kernel
theorem dX8_axle_31 : decode cX8_axle 31 = .ok (.iload 6, 2) := by decide +kernel
theorem dX8_axle_33 : decode cX8_axle 33 = .ok (.invokevirtual 75, 3) := by decide +kernel
theorem dX8_axle_36 : decode cX8_axle 36 = .ok (.istore 7, 2) := by decide +kernel
theorem dX8_axle_38 : decode cX8_axle 38 = .ok (.iload 7, 2) := by decide +kernel
theorem dX8_axle_40 : decode cX8_axle 40 = .ok (.bipush (-6), 2) := by decide +kernel
theorem dX8_axle_42 : decode cX8_axle 42 = .ok (.if_icmp .eq 33, 3) := by decide +kernel
theorem dX8_axle_45 : decode cX8_axle 45 = .ok (.fload 5, 2) := by decide +kernel
theorem dX8_axle_47 : decode cX8_axle 47 = .ok (.aload_n 0, 1) := by decide +kernel
theorem dX8_axle_48 : decode cX8_axle 48 = .ok (.iload 7, 2) := by decide +kernel
theorem dX8_axle_50 : decode cX8_axle 50 = .ok (.invokevirtual 58, 3) := by decide +kernel
theorem dX8_axle_53 : decode cX8_axle 53 = .ok (.i2f, 1) := by decide +kernel
theorem dX8_axle_54 : decode cX8_axle 54 = .ok (.iload_n 2, 1) := by decide +kernel
theorem dX8_axle_55 : decode cX8_axle 55 = .ok (.ifCond .eq 8, 3) := by decide +kernel
theorem dX8_axle_58 : decode cX8_axle 58 = .ok (.iload 6, 2) := by decide +kernel
theorem dX8_axle_60 : decode cX8_axle 60 = .ok (.goto 7, 3) := by decide +kernel
theorem dX8_axle_63 : decode cX8_axle 63 = .ok (.iconst 4, 1) := by decide +kernel
theorem dX8_axle_64 : decode cX8_axle 64 = .ok (.iload 6, 2) := by decide +kernel
theorem dX8_axle_66 : decode cX8_axle 66 = .ok (.isub, 1) := by decide +kernel
theorem dX8_axle_67 : decode cX8_axle 67 = .ok (.i2f, 1) := by decide +kernel
theorem dX8_axle_68 : decode cX8_axle 68 = .ok (.fmul, 1) := by decide +kernel
theorem dX8_axle_69 : decode cX8_axle 69 = .ok (.ldc 78, 2) := by decide +kernel
theorem dX8_axle_71 : decode cX8_axle 71 = .ok (.fdiv, 1) := by decide +kernel
theorem dX8_axle_72 : decode cX8_axle 72 = .ok (.fadd, 1) := by decide +kernel
theorem dX8_axle_73 : decode cX8_axle 73 = .ok (.fstore 5, 2) := by decide +kernel
theorem dX8_axle_75 : decode cX8_axle 75 = .ok (.iinc 6 1, 3) := by decide +kernel
theorem dX8_axle_78 : decode cX8_axle 78 = .ok (.goto (-72), 3) := by decide +kernel
theorem dX8_axle_81 : decode cX8_axle 81 = .ok (.fload 5, 2) := by decide +kernel
theorem dX8_axle_83 : decode cX8_axle 83 = .ok (.freturn, 1) := by decide +kernel
theorem dX8_axleNow_0 : decode cX8_axleNow 0 = .ok (.aload_n 0, 1) := by decide +kernel
theorem dX8_axleNow_1 : decode cX8_axleNow 1 = .ok (.iload_n 1, 1) := by decide +kernel
theorem dX8_axleNow_2 : decode cX8_axleNow 2 = .ok (.iload_n 2, 1) := by decide +kernel
theorem dX8_axleNow_3 : decode cX8_axleNow 3 = .ok (.bipush (-6), 2) := by decide +kernel
theorem dX8_axleNow_5 : decode cX8_axleNow 5 = .ok (.bipush (-6), 2) := by decide +kernel
theorem dX8_axleNow_7 : decode cX8_axleNow 7 = .ok (.invokevirtual 79, 3) := by decide +kernel
theorem dX8_axleNow_10 : decode cX8_axleNow 10 = .ok (.freturn, 1) := by decide +kernel
theorem dX8_hasCracked_0 : decode cX8_hasCracked 0 = .ok (.iconst 0, 1) := by decide +kernel
theorem dX8_hasCracked_1 : decode cX8_hasCracked 1 = .ok (.istore_n 2, 1) := by decide +kernel
theorem dX8_hasCracked_2 : decode cX8_hasCracked 2 = .ok (.iconst 0, 1) := by decide +kernel
theorem dX8_hasCracked_3 : decode cX8_hasCracked 3 = .ok (.istore_n 3, 1) := by decide +kernel
theorem dX8_hasCracked_4 : decode cX8_hasCracked 4 = .ok (.iload_n 3, 1) := by decide +kernel
theorem dX8_hasCracked_5 : decode cX8_hasCracked 5 = .ok (.iconst 5, 1) := by decide +kernel
theorem dX8_hasCracked_6 : decode cX8_hasCracked 6 = .ok (.if_icmp .ge 50, 3) := by decide +kernel
theorem dX8_hasCracked_9 : decode cX8_hasCracked 9 = .ok (.aload_n 0, 1) := by decide +kernel
theorem dX8_hasCracked_10 : decode cX8_hasCracked 10 = .ok (.iload_n 1, 1) := by decide +kernel
theorem dX8_hasCracked_11 : decode cX8_hasCracked 11 = .ok (.iload_n 3, 1) := by decide +kernel
theorem dX8_hasCracked_12 : decode cX8_hasCracked 12 = .ok (.invokevirtual 75, 3) := by decide +kernel
theorem dX8_hasCracked_15 : decode cX8_hasCracked 15 = .ok (.istore 4, 2) := by decide +kernel
theorem dX8_hasCracked_17 : decode cX8_hasCracked 17 = .ok (.iload_n 2, 1) := by decide +kernel
theorem dX8_hasCracked_18 : decode cX8_hasCracked 18 = .ok (.ifCond .ne 26, 3) := by decide +kernel
theorem dX8_hasCracked_21 : decode cX8_hasCracked 21 = .ok (.iload 4, 2) := by decide +kernel
theorem dX8_hasCracked_23 : decode cX8_hasCracked 23 = .ok (.bipush (-6), 2) := by decide +kernel
theorem dX8_hasCracked_25 : decode cX8_hasCracked 25 = .ok (.if_icmp .eq 23, 3) := by decide +kernel
theorem dX8_hasCracked_28 : decode cX8_hasCracked 28 = .ok (.aload_n 0, 1) := by decide +kernel
theorem dX8_hasCracked_29 : decode cX8_hasCracked 29 = .ok (.getfield 7, 3) := by decide +kernel
theorem dX8_hasCracked_32 : decode cX8_hasCracked 32 = .ok (.iload 4, 2) := by decide +kernel
theorem dX8_hasCracked_34 : decode cX8_hasCracked 34 = .ok (.bipush 6, 2) := by decide +kernel
theorem dX8_hasCracked_36 : decode cX8_hasCracked 36 = .ok (.invokestatic 47, 3) := by decide +kernel
theorem dX8_hasCracked_39 : decode cX8_hasCracked 39 = .ok (.iaload, 1) := by decide +kernel
theorem dX8_hasCracked_40 : decode cX8_hasCracked 40 = .ok (.iconst 1, 1) := by decide +kernel
theorem dX8_hasCracked_41 : decode cX8_hasCracked 41 = .ok (.if_icmp .ne 7, 3) := by decide +kernel
theorem dX8_hasCracked_44 : decode cX8_hasCracked 44 = .ok (.iconst 1, 1) := by decide +kernel
theorem dX8_hasCracked_45 : decode cX8_hasCracked 45 = .ok (.goto 4, 3) := by decide +kernel
theorem dX8_hasCracked_48 : decode cX8_hasCracked 48 = .ok (.iconst 0, 1) := by decide +kernel
theorem dX8_hasCracked_49 : decode cX8_hasCracked 49 = .ok (.istore_n 2, 1) := by decide +kernel
theorem dX8_hasCracked_50 : decode cX8_hasCracked 50 = .ok (.iinc 3 1, 3) := by decide +kernel
theorem dX8_hasCracked_53 : decode cX8_hasCracked 53 = .ok (.goto (-49), 3) := by decide +kernel
theorem dX8_hasCracked_56 : decode cX8_hasCracked 56 = .ok (.iload_n 2, 1) := by decide +kernel
theorem dX8_hasCracked_57 : decode cX8_hasCracked 57 = .ok (.ireturn, 1) := by decide +kernel
theorem dX8_blocksOn_0 : decode cX8_blocksOn 0 = .ok (.iconst 0, 1) := by decide +kernel
theorem dX8_blocksOn_1 : decode cX8_blocksOn 1 = .ok (.istore_n 2, 1) := by decide +kernel
theorem dX8_blocksOn_2 : decode cX8_blocksOn 2 = .ok (.iconst 0, 1) := by decide +kernel
theorem dX8_blocksOn_3 : decode cX8_blocksOn 3 = .ok (.istore_n 3, 1) := by decide +kernel
theorem dX8_blocksOn_4 : decode cX8_blocksOn 4 = .ok (.iload_n 3, 1) := by decide +kernel
theorem dX8_blocksOn_5 : decode cX8_blocksOn 5 = .ok (.iconst 5, 1) := by decide +kernel
theorem dX8_blocksOn_6 : decode cX8_blocksOn 6 = .ok (.if_icmp .ge 35, 3) := by decide +kernel
theorem dX8_blocksOn_9 : decode cX8_blocksOn 9 = .ok (.iload_n 2, 1) := by decide +kernel
theorem dX8_blocksOn_10 : decode cX8_blocksOn 10 = .ok (.aload_n 0, 1) := by decide +kernel
theorem dX8_blocksOn_11 : decode cX8_blocksOn 11 = .ok (.iload_n 1, 1) := by decide +kernel
theorem dX8_blocksOn_12 : decode cX8_blocksOn 12 = .ok (.iload_n 3, 1) := by decide +kernel
theorem dX8_blocksOn_13 : decode cX8_blocksOn 13 = .ok (.invokevirtual 75, 3) := by decide +kernel
theorem dX8_blocksOn_16 : decode cX8_blocksOn 16 = .ok (.bipush (-6), 2) := by decide +kernel
theorem dX8_blocksOn_18 : decode cX8_blocksOn 18 = .ok (.if_icmp .ne 7, 3) := by decide +kernel
theorem dX8_blocksOn_21 : decode cX8_blocksOn 21 = .ok (.iconst 0, 1) := by decide +kernel
theorem dX8_blocksOn_22 : decode cX8_blocksOn 22 = .ok (.goto 11, 3) := by decide +kernel
theorem dX8_blocksOn_25 : decode cX8_blocksOn 25 = .ok (.iconst 1, 1) := by decide +kernel
theorem dX8_blocksOn_26 : decode cX8_blocksOn 26 = .ok (.aload_n 0, 1) := by decide +kernel
theorem dX8_blocksOn_27 : decode cX8_blocksOn 27 = .ok (.iload_n 1, 1) := by decide +kernel
theorem dX8_blocksOn_28 : decode cX8_blocksOn 28 = .ok (.iload_n 3, 1) := by decide +kernel
theorem dX8_blocksOn_29 : decode cX8_blocksOn 29 = .ok (.invokevirtual 75, 3) := by decide +kernel
theorem dX8_blocksOn_32 : decode cX8_blocksOn 32 = .ok (.ishl, 1) := by decide +kernel
theorem dX8_blocksOn_33 : decode cX8_blocksOn 33 = .ok (.ior, 1) := by decide +kernel
theorem dX8_blocksOn_34 : decode cX8_blocksOn 34 = .ok (.istore_n 2, 1) := by decide +kernel
theorem dX8_blocksOn_35 : decode cX8_blocksOn 35 = .ok (.iinc 3 1, 3) := by decide +kernel
theorem dX8_blocksOn_38 : decode cX8_blocksOn 38 = .ok (.goto (-34), 3) := by decide +kernel
theorem dX8_blocksOn_41 : decode cX8_blocksOn 41 = .ok (.iload_n 2, 1) := by decide +kernel
theorem dX8_blocksOn_42 : decode cX8_blocksOn 42 = .ok (.ireturn, 1) := by decide +kernel
theorem dX8_whyNot_0 : decode cX8_whyNot 0 = .ok (.aload_n 0, 1) := by decide +kernel
theorem dX8_whyNot_1 : decode cX8_whyNot 1 = .ok (.iload_n 1, 1) := by decide +kernel
theorem dX8_whyNot_2 : decode cX8_whyNot 2 = .ok (.invokevirtual 83, 3) := by decide +kernel
theorem dX8_whyNot_5 : decode cX8_whyNot 5 = .ok (.ifCond .ne 5, 3) := by decide +kernel
theorem dX8_whyNot_8 : decode cX8_whyNot 8 = .ok (.iconst 1, 1) := by decide +kernel
theorem dX8_whyNot_9 : decode cX8_whyNot 9 = .ok (.ireturn, 1) := by decide +kernel
theorem dX8_whyNot_10 : decode cX8_whyNot 10 = .ok (.aload_n 0, 1) := by decide +kernel
theorem dX8_whyNot_11 : decode cX8_whyNot 11 = .ok (.iload_n 1, 1) := by decide +kernel
theorem dX8_whyNot_12 : decode cX8_whyNot 12 = .ok (.invokevirtual 86, 3) := by decide +kernel
theorem dX8_whyNot_15 : decode cX8_whyNot 15 = .ok (.ifCond .eq 5, 3) := by decide +kernel
theorem dX8_whyNot_18 : decode cX8_whyNot 18 = .ok (.iconst 2, 1) := by decide +kernel
theorem dX8_whyNot_19 : decode cX8_whyNot 19 = .ok (.ireturn, 1) := by decide +kernel
theorem dX8_whyNot_20 : decode cX8_whyNot 20 = .ok (.aload_n 0, 1) := by decide +kernel
theorem dX8_whyNot_21 : decode cX8_whyNot 21 = .ok (.iload_n 1, 1) := by decide +kernel
theorem dX8_whyNot_22 : decode cX8_whyNot 22 = .ok (.invokevirtual 90, 3) := by decide +kernel
theorem dX8_whyNot_25 : decode cX8_whyNot 25 = .ok (.aload_n 0, 1) := by decide +kernel
theorem dX8_whyNot_26 : decode cX8_whyNot 26 = .ok (.getfield 7, 3) := by decide +kernel
theorem dX8_whyNot_29 : decode cX8_whyNot 29 = .ok (.iload_n 1, 1) := by decide +kernel
theorem dX8_whyNot_30 : decode cX8_whyNot 30 = .ok (.iconst 2, 1) := by decide +kernel
theorem dX8_whyNot_31 : decode cX8_whyNot 31 = .ok (.invokestatic 35, 3) := by decide +kernel
theorem dX8_whyNot_34 : decode cX8_whyNot 34 = .ok (.iaload, 1) := by decide +kernel
theorem dX8_whyNot_35 : decode cX8_whyNot 35 = .ok (.if_icmp .le 5, 3) := by decide +kernel
theorem dX8_whyNot_38 : decode cX8_whyNot 38 = .ok (.iconst 3, 1) := by decide +kernel
theorem dX8_whyNot_39 : decode cX8_whyNot 39 = .ok (.ireturn, 1) := by decide +kernel
theorem dX8_whyNot_40 : decode cX8_whyNot 40 = .ok (.aload_n 0, 1) := by decide +kernel
theorem dX8_whyNot_41 : decode cX8_whyNot 41 = .ok (.iload_n 1, 1) := by decide +kernel
theorem dX8_whyNot_42 : decode cX8_whyNot 42 = .ok (.iconst 0, 1) := by decide +kernel
theorem dX8_whyNot_43 : decode cX8_whyNot 43 = .ok (.invokevirtual 93, 3) := by decide +kernel
theorem dX8_whyNot_46 : decode cX8_whyNot 46 = .ok (.aload_n 0, 1) := by decide +kernel
theorem dX8_whyNot_47 : decode cX8_whyNot 47 = .ok (.getfield 7, 3) := by decide +kernel
theorem dX8_whyNot_50 : decode cX8_whyNot 50 = .ok (.iload_n 1, 1) := by decide +kernel
theorem dX8_whyNot_51 : decode cX8_whyNot 51 = .ok (.iconst 0, 1) := by decide +kernel
theorem dX8_whyNot_52 : decode cX8_whyNot 52 = .ok (.invokestatic 35, 3) := by decide +kernel
theorem dX8_whyNot_55 : decode cX8_whyNot 55 = .ok (.iaload, 1) := by decide +kernel
theorem dX8_whyNot_56 : decode cX8_whyNot 56 = .ok (.i2f, 1) := by decide +kernel
theorem dX8_whyNot_57 : decode cX8_whyNot 57 = .ok (.fcmp .l, 1) := by decide +kernel
theorem dX8_whyNot_58 : decode cX8_whyNot 58 = .ok (.ifCond .le 7, 3) := by decide +kernel
theorem dX8_whyNot_61 : decode cX8_whyNot 61 = .ok (.iconst 4, 1) := by decide +kernel
theorem dX8_whyNot_62 : decode cX8_whyNot 62 = .ok (.goto 29, 3) := by decide +kernel
theorem dX8_whyNot_65 : decode cX8_whyNot 65 = .ok (.aload_n 0, 1) := by decide +kernel
theorem dX8_whyNot_66 : decode cX8_whyNot 66 = .ok (.iload_n 1, 1) := by decide +kernel
theorem dX8_whyNot_67 : decode cX8_whyNot 67 = .ok (.iconst 1, 1) := by decide +kernel
theorem dX8_whyNot_68 : decode cX8_whyNot 68 = .ok (.invokevirtual 93, 3) := by decide +kernel
theorem dX8_whyNot_71 : decode cX8_whyNot 71 = .ok (.aload_n 0, 1) := by decide +kernel
theorem dX8_whyNot_72 : decode cX8_whyNot 72 = .ok (.getfield 7, 3) := by decide +kernel
theorem dX8_whyNot_75 : decode cX8_whyNot 75 = .ok (.iload_n 1, 1) := by decide +kernel
theorem dX8_whyNot_76 : decode cX8_whyNot 76 = .ok (.iconst 1, 1) := by decide +kernel
theorem dX8_whyNot_77 : decode cX8_whyNot 77 = .ok (.invokestatic 35, 3) := by decide +kernel
theorem dX8_whyNot_80 : decode cX8_whyNot 80 = .ok (.iaload, 1) := by decide +kernel
theorem dX8_whyNot_81 : decode cX8_whyNot 81 = .ok (.i2f, 1) := by decide +kernel
theorem dX8_whyNot_82 : decode cX8_whyNot 82 = .ok (.fcmp .l, 1) := by decide +kernel
theorem dX8_whyNot_83 : decode cX8_whyNot 83 = .ok (.ifCond .le 7, 3) := by decide +kernel
theorem dX8_whyNot_86 : decode cX8_whyNot 86 = .ok (.iconst 5, 1) := by decide +kernel
theorem dX8_whyNot_87 : decode cX8_whyNot 87 = .ok (.goto 4, 3) := by decide +kernel
theorem dX8_whyNot_90 : decode cX8_whyNot 90 = .ok (.iconst 0, 1) := by decide +kernel
theorem dX8_whyNot_91 : decode cX8_whyNot 91 = .ok (.ireturn, 1) := by decide +kernel
theorem dX8_delivers_0 : decode cX8_delivers 0 = .ok (.aload_n 0, 1) := by decide +kernel
theorem dX8_delivers_1 : decode cX8_delivers 1 = .ok (.getfield 7, 3) := by decide +kernel
theorem dX8_delivers_4 : decode cX8_delivers 4 = .ok (.iload_n 1, 1) := by decide +kernel
theorem dX8_delivers_5 : decode cX8_delivers 5 = .ok (.bipush 7, 2) := by decide +kernel
theorem dX8_delivers_7 : decode cX8_delivers 7 = .ok (.invokestatic 47, 3) := by decide +kernel
theorem dX8_delivers_10 : decode cX8_delivers 10 = .ok (.iaload, 1) := by decide +kernel
theorem dX8_delivers_11 : decode cX8_delivers 11 = .ok (.istore_n 2, 1) := by decide +kernel
theorem dX8_delivers_12 : decode cX8_delivers 12 = .ok (.iload_n 2, 1) := by decide +kernel
theorem dX8_delivers_13 : decode cX8_delivers 13 = .ok (.bipush (-6), 2) := by decide +kernel
theorem dX8_delivers_15 : decode cX8_delivers 15 = .ok (.if_icmp .ne 7, 3) := by decide +kernel
theorem dX8_delivers_18 : decode cX8_delivers 18 = .ok (.iconst 0, 1) := by decide +kernel
theorem dX8_delivers_19 : decode cX8_delivers 19 = .ok (.goto 21, 3) := by decide +kernel
theorem dX8_delivers_22 : decode cX8_delivers 22 = .ok (.aload_n 0, 1) := by decide +kernel
theorem dX8_delivers_23 : decode cX8_delivers 23 = .ok (.getfield 7, 3) := by decide +kernel
theorem dX8_delivers_26 : decode cX8_delivers 26 = .ok (.iconst 1, 1) := by decide +kernel
theorem dX8_delivers_27 : decode cX8_delivers 27 = .ok (.iaload, 1) := by decide +kernel
theorem dX8_delivers_28 : decode cX8_delivers 28 = .ok (.aload_n 0, 1) := by decide +kernel
theorem dX8_delivers_29 : decode cX8_delivers 29 = .ok (.iload_n 1, 1) := by decide +kernel
theorem dX8_delivers_30 : decode cX8_delivers 30 = .ok (.invokevirtual 58, 3) := by decide +kernel
theorem dX8_delivers_33 : decode cX8_delivers 33 = .ok (.bipush 99, 2) := by decide +kernel
theorem dX8_delivers_35 : decode cX8_delivers 35 = .ok (.iadd, 1) := by decide +kernel
theorem dX8_delivers_36 : decode cX8_delivers 36 = .ok (.bipush 100, 2) := by decide +kernel
theorem dX8_delivers_38 : decode cX8_delivers 38 = .ok (.idiv, 1) := by decide +kernel
theorem dX8_delivers_39 : decode cX8_delivers 39 = .ok (.imul, 1) := by decide +kernel
theorem dX8_delivers_40 : decode cX8_delivers 40 = .ok (.istore_n 3, 1) := by decide +kernel
theorem dX8_delivers_41 : decode cX8_delivers 41 = .ok (.aload_n 0, 1) := by decide +kernel
theorem dX8_delivers_42 : decode cX8_delivers 42 = .ok (.getfield 7, 3) := by decide +kernel
theorem dX8_delivers_45 : decode cX8_delivers 45 = .ok (.iload_n 1, 1) := by decide +kernel
theorem dX8_delivers_46 : decode cX8_delivers 46 = .ok (.iconst 4, 1) := by decide +kernel
theorem dX8_delivers_47 : decode cX8_delivers 47 = .ok (.invokestatic 47, 3) := by decide +kernel
theorem dX8_delivers_50 : decode cX8_delivers 50 = .ok (.iconst 3, 1) := by decide +kernel
theorem dX8_delivers_51 : decode cX8_delivers 51 = .ok (.iastore, 1) := by decide +kernel
theorem dX8_delivers_52 : decode cX8_delivers 52 = .ok (.aload_n 0, 1) := by decide +kernel
theorem dX8_delivers_53 : decode cX8_delivers 53 = .ok (.getfield 7, 3) := by decide +kernel
theorem dX8_delivers_56 : decode cX8_delivers 56 = .ok (.iload_n 1, 1) := by decide +kernel
theorem dX8_delivers_57 : decode cX8_delivers 57 = .ok (.bipush 8, 2) := by decide +kernel
theorem dX8_delivers_59 : decode cX8_delivers 59 = .ok (.invokestatic 47, 3) := by decide +kernel
theorem dX8_delivers_62 : decode cX8_delivers 62 = .ok (.bipush (-6), 2) := by decide +kernel
theorem dX8_delivers_64 : decode cX8_delivers 64 = .ok (.iastore, 1) := by decide +kernel
theorem dX8_delivers_65 : decode cX8_delivers 65 = .ok (.aload_n 0, 1) := by decide +kernel
theorem dX8_delivers_66 : decode cX8_delivers 66 = .ok (.getfield 7, 3) := by decide +kernel
theorem dX8_delivers_69 : decode cX8_delivers 69 = .ok (.bipush 10, 2) := by decide +kernel
theorem dX8_delivers_71 : decode cX8_delivers 71 = .ok (.dup2, 1) := by decide +kernel
theorem dX8_delivers_72 : decode cX8_delivers 72 = .ok (.iaload, 1) := by decide +kernel
theorem dX8_delivers_73 : decode cX8_delivers 73 = .ok (.aload_n 0, 1) := by decide +kernel
theorem dX8_delivers_74 : decode cX8_delivers 74 = .ok (.iload_n 1, 1) := by decide +kernel
theorem dX8_delivers_75 : decode cX8_delivers 75 = .ok (.invokevirtual 58, 3) := by decide +kernel
theorem dX8_delivers_78 : decode cX8_delivers 78 = .ok (.iadd, 1) := by decide +kernel
theorem dX8_delivers_79 : decode cX8_delivers 79 = .ok (.iastore, 1) := by decide +kernel
theorem dX8_delivers_80 : decode cX8_delivers 80 = .ok (.iload_n 2, 1) := by decide +kernel
theorem dX8_delivers_81 : decode cX8_delivers 81 = .ok (.bipush (-6), 2) := by decide +kernel
theorem dX8_delivers_83 : decode cX8_delivers 83 = .ok (.if_icmp .eq 25, 3) := by decide +kernel
theorem dX8_delivers_86 : decode cX8_delivers 86 = .ok (.aload_n 0, 1) := by decide +kernel
theorem dX8_delivers_87 : decode cX8_delivers 87 = .ok (.getfield 7, 3) := by decide +kernel
theorem dX8_delivers_90 : decode cX8_delivers 90 = .ok (.iload_n 2, 1) := by decide +kernel
theorem dX8_delivers_91 : decode cX8_delivers 91 = .ok (.iconst 3, 1) := by decide +kernel
theorem dX8_delivers_92 : decode cX8_delivers 92 = .ok (.invokestatic 66, 3) := by decide +kernel
theorem dX8_delivers_95 : decode cX8_delivers 95 = .ok (.iconst 2, 1) := by decide +kernel
theorem dX8_delivers_96 : decode cX8_delivers 96 = .ok (.iastore, 1) := by decide +kernel
theorem dX8_delivers_97 : decode cX8_delivers 97 = .ok (.aload_n 0, 1) := by decide +kernel
theorem dX8_delivers_98 : decode cX8_delivers 98 = .ok (.getfield 7, 3) := by decide +kernel
theorem dX8_delivers_101 : decode cX8_delivers 101 = .ok (.iload_n 2, 1) := by decide +kernel
theorem dX8_delivers_102 : decode cX8_delivers 102 = .ok (.iconst 5, 1) := by decide +kernel
theorem dX8_delivers_103 : decode cX8_delivers 103 = .ok (.invokestatic 66, 3) := by decide +kernel
theorem dX8_delivers_106 : decode cX8_delivers 106 = .ok (.iload_n 3, 1) := by decide +kernel
theorem dX8_delivers_107 : decode cX8_delivers 107 = .ok (.iastore, 1) := by decide +kernel
theorem dX8_delivers_108 : decode cX8_delivers 108 = .ok (.iload_n 3, 1) := by decide +kernel
theorem dX8_delivers_109 : decode cX8_delivers 109 = .ok (.ireturn, 1) := by decide +kernel
theorem dX8_quarries_0 : decode cX8_quarries 0 = .ok (.iload_n 1, 1) := by decide +kernel
theorem dX8_quarries_1 : decode cX8_quarries 1 = .ok (.invokestatic 97, 3) := by decide +kernel
theorem dX8_quarries_4 : decode cX8_quarries 4 = .ok (.ifCond .eq 29, 3) := by decide +kernel
theorem dX8_quarries_7 : decode cX8_quarries 7 = .ok (.iload_n 2, 1) := by decide +kernel
theorem dX8_quarries_8 : decode cX8_quarries 8 = .ok (.invokestatic 97, 3) := by decide +kernel
theorem dX8_quarries_11 : decode cX8_quarries 11 = .ok (.ifCond .eq 22, 3) := by decide +kernel
theorem dX8_quarries_14 : decode cX8_quarries 14 = .ok (.iload_n 3, 1) := by decide +kernel
theorem dX8_quarries_15 : decode cX8_quarries 15 = .ok (.invokestatic 97, 3) := by decide +kernel
theorem dX8_quarries_18 : decode cX8_quarries 18 = .ok (.ifCond .eq 15, 3) := by decide +kernel
theorem dX8_quarries_21 : decode cX8_quarries 21 = .ok (.iload 4, 2) := by decide +kernel
theorem dX8_quarries_23 : decode cX8_quarries 23 = .ok (.bipush 20, 2) := by decide +kernel
theorem dX8_quarries_25 : decode cX8_quarries 25 = .ok (.bipush 30, 2) := by decide +kernel
theorem dX8_quarries_27 : decode cX8_quarries 27 = .ok (.invokestatic 39, 3) := by decide +kernel
theorem dX8_quarries_30 : decode cX8_quarries 30 = .ok (.ifCond .ne 6, 3) := by decide +kernel
theorem dX8_quarries_33 : decode cX8_quarries 33 = .ok (.bipush (-2), 2) := by decide +kernel
theorem dX8_quarries_35 : decode cX8_quarries 35 = .ok (.ireturn, 1) := by decide +kernel
theorem dX8_quarries_36 : decode cX8_quarries 36 = .ok (.aload_n 0, 1) := by decide +kernel
theorem dX8_quarries_37 : decode cX8_quarries 37 = .ok (.getfield 7, 3) := by decide +kernel
theorem dX8_quarries_40 : decode cX8_quarries 40 = .ok (.iconst 5, 1) := by decide +kernel
theorem dX8_quarries_41 : decode cX8_quarries 41 = .ok (.iaload, 1) := by decide +kernel
theorem dX8_quarries_42 : decode cX8_quarries 42 = .ok (.bipush 24, 2) := by decide +kernel
theorem dX8_quarries_44 : decode cX8_quarries 44 = .ok (.if_icmp .ne 6, 3) := by decide +kernel
theorem dX8_quarries_47 : decode cX8_quarries 47 = .ok (.bipush (-4), 2) := by decide +kernel
theorem dX8_quarries_49 : decode cX8_quarries 49 = .ok (.ireturn, 1) := by decide +kernel
theorem dX8_quarries_50 : decode cX8_quarries 50 = .ok (.aload_n 0, 1) := by decide +kernel
theorem dX8_quarries_51 : decode cX8_quarries 51 = .ok (.iload_n 1, 1) := by decide +kernel
theorem dX8_quarries_52 : decode cX8_quarries 52 = .ok (.iload_n 2, 1) := by decide +kernel
theorem dX8_quarries_53 : decode cX8_quarries 53 = .ok (.iload_n 3, 1) := by decide +kernel
theorem dX8_quarries_54 : decode cX8_quarries 54 = .ok (.iload 4, 2) := by decide +kernel
theorem dX8_quarries_56 : decode cX8_quarries 56 = .ok (.invokevirtual 54, 3) := by decide +kernel
theorem dX8_quarries_59 : decode cX8_quarries 59 = .ok (.istore 5, 2) := by decide +kernel
theorem dX8_quarries_61 : decode cX8_quarries 61 = .ok (.aload_n 0, 1) := by decide +kernel
theorem dX8_quarries_62 : decode cX8_quarries 62 = .ok (.getfield 7, 3) := by decide +kernel
theorem dX8_quarries_65 : decode cX8_quarries 65 = .ok (.iload 5, 2) := by decide +kernel
theorem dX8_quarries_67 : decode cX8_quarries 67 = .ok (.iconst 5, 1) := by decide +kernel
theorem dX8_quarries_68 : decode cX8_quarries 68 = .ok (.invokestatic 47, 3) := by decide +kernel
theorem dX8_quarries_71 : decode cX8_quarries 71 = .ok (.iconst 3, 1) := by decide +kernel
theorem dX8_quarries_72 : decode cX8_quarries 72 = .ok (.iastore, 1) := by decide +kernel
theorem dX8_quarries_73 : decode cX8_quarries 73 = .ok (.aload_n 0, 1) := by decide +kernel
theorem dX8_quarries_74 : decode cX8_quarries 74 = .ok (.getfield 7, 3) := by decide +kernel
theorem dX8_quarries_77 : decode cX8_quarries 77 = .ok (.bipush 8, 2) := by decide +kernel
theorem dX8_quarries_79 : decode cX8_quarries 79 = .ok (.dup2, 1) := by decide +kernel
theorem dX8_quarries_80 : decode cX8_quarries 80 = .ok (.iaload, 1) := by decide +kernel
theorem dX8_quarries_81 : decode cX8_quarries 81 = .ok (.aload_n 0, 1) := by decide +kernel
theorem dX8_quarries_82 : decode cX8_quarries 82 = .ok (.iload 5, 2) := by decide +kernel
theorem dX8_quarries_84 : decode cX8_quarries 84 = .ok (.invokevirtual 58, 3) := by decide +kernel
theorem dX8_quarries_87 : decode cX8_quarries 87 = .ok (.iadd, 1) := by decide +kernel
theorem dX8_quarries_88 : decode cX8_quarries 88 = .ok (.iastore, 1) := by decide +kernel
theorem dX8_quarries_89 : decode cX8_quarries 89 = .ok (.iload 5, 2) := by decide +kernel
theorem dX8_quarries_91 : decode cX8_quarries 91 = .ok (.ireturn, 1) := by decide +kernel
theorem dX8_canBeCut_0 : decode cX8_canBeCut 0 = .ok (.aload_n 0, 1) := by decide +kernel
theorem dX8_canBeCut_1 : decode cX8_canBeCut 1 = .ok (.getfield 7, 3) := by decide +kernel
theorem dX8_canBeCut_4 : decode cX8_canBeCut 4 = .ok (.bipush 7, 2) := by decide +kernel
theorem dX8_canBeCut_6 : decode cX8_canBeCut 6 = .ok (.iaload, 1) := by decide +kernel
theorem dX8_canBeCut_7 : decode cX8_canBeCut 7 = .ok (.ifCond .ne 31, 3) := by decide +kernel
theorem dX8_canBeCut_10 : decode cX8_canBeCut 10 = .ok (.aload_n 0, 1) := by decide +kernel
theorem dX8_canBeCut_11 : decode cX8_canBeCut 11 = .ok (.iload_n 1, 1) := by decide +kernel
theorem dX8_canBeCut_12 : decode cX8_canBeCut 12 = .ok (.invokevirtual 100, 3) := by decide +kernel
theorem dX8_canBeCut_15 : decode cX8_canBeCut 15 = .ok (.ifCond .eq 23, 3) := by decide +kernel
theorem dX8_canBeCut_18 : decode cX8_canBeCut 18 = .ok (.aload_n 0, 1) := by decide +kernel
theorem dX8_canBeCut_19 : decode cX8_canBeCut 19 = .ok (.getfield 7, 3) := by decide +kernel
theorem dX8_canBeCut_22 : decode cX8_canBeCut 22 = .ok (.iload_n 1, 1) := by decide +kernel
theorem dX8_canBeCut_23 : decode cX8_canBeCut 23 = .ok (.bipush 7, 2) := by decide +kernel
theorem dX8_canBeCut_25 : decode cX8_canBeCut 25 = .ok (.invokestatic 47, 3) := by decide +kernel
theorem dX8_canBeCut_28 : decode cX8_canBeCut 28 = .ok (.iaload, 1) := by decide +kernel
theorem dX8_canBeCut_29 : decode cX8_canBeCut 29 = .ok (.bipush (-6), 2) := by decide +kernel
theorem dX8_canBeCut_31 : decode cX8_canBeCut 31 = .ok (.if_icmp .ne 7, 3) := by decide +kernel
theorem dX8_canBeCut_34 : decode cX8_canBeCut 34 = .ok (.iconst 1, 1) := by decide +kernel
theorem dX8_canBeCut_35 : decode cX8_canBeCut 35 = .ok (.goto 4, 3) := by decide +kernel
theorem dX8_canBeCut_38 : decode cX8_canBeCut 38 = .ok (.iconst 0, 1) := by decide +kernel
theorem dX8_canBeCut_39 : decode cX8_canBeCut 39 = .ok (.ireturn, 1) := by decide +kernel
theorem dX8_cuts_0 : decode cX8_cuts 0 = .ok (.aload_n 0, 1) := by decide +kernel
theorem dX8_cuts_1 : decode cX8_cuts 1 = .ok (.iload_n 1, 1) := by decide +kernel
theorem dX8_cuts_2 : decode cX8_cuts 2 = .ok (.invokevirtual 103, 3) := by decide +kernel
theorem dX8_cuts_5 : decode cX8_cuts 5 = .ok (.ifCond .ne 5, 3) := by decide +kernel
theorem dX8_cuts_8 : decode cX8_cuts 8 = .ok (.iconst (-1), 1) := by decide +kernel
theorem dX8_cuts_9 : decode cX8_cuts 9 = .ok (.ireturn, 1) := by decide +kernel
theorem dX8_cuts_10 : decode cX8_cuts 10 = .ok (.iload_n 2, 1) := by decide +kernel
theorem dX8_cuts_11 : decode cX8_cuts 11 = .ok (.iconst 0, 1) := by decide +kernel
theorem dX8_cuts_12 : decode cX8_cuts 12 = .ok (.iconst 2, 1) := by decide +kernel
theorem dX8_cuts_13 : decode cX8_cuts 13 = .ok (.invokestatic 39, 3) := by decide +kernel
theorem dX8_cuts_16 : decode cX8_cuts 16 = .ok (.ifCond .eq 10, 3) := by decide +kernel
theorem dX8_cuts_19 : decode cX8_cuts 19 = .ok (.iload_n 3, 1) := by decide +kernel
theorem dX8_cuts_20 : decode cX8_cuts 20 = .ok (.invokestatic 97, 3) := by decide +kernel
theorem dX8_cuts_23 : decode cX8_cuts 23 = .ok (.ifCond .ne 6, 3) := by decide +kernel
theorem dX8_cuts_26 : decode cX8_cuts 26 = .ok (.bipush (-2), 2) := by decide +kernel
theorem dX8_cuts_28 : decode cX8_cuts 28 = .ok (.ireturn, 1) := by decide +kernel
theorem dX8_cuts_29 : decode cX8_cuts 29 = .ok (.aload_n 0, 1) := by decide +kernel
theorem dX8_cuts_30 : decode cX8_cuts 30 = .ok (.getfield 7, 3) := by decide +kernel
theorem dX8_cuts_33 : decode cX8_cuts 33 = .ok (.iload_n 1, 1) := by decide +kernel
theorem dX8_cuts_34 : decode cX8_cuts 34 = .ok (.iload_n 2, 1) := by decide +kernel
theorem dX8_cuts_35 : decode cX8_cuts 35 = .ok (.invokestatic 47, 3) := by decide +kernel
theorem dX8_cuts_38 : decode cX8_cuts 38 = .ok (.iaload, 1) := by decide +kernel
theorem dX8_cuts_39 : decode cX8_cuts 39 = .ok (.iload_n 3, 1) := by decide +kernel
theorem dX8_cuts_40 : decode cX8_cuts 40 = .ok (.isub, 1) := by decide +kernel
theorem dX8_cuts_41 : decode cX8_cuts 41 = .ok (.aload_n 0, 1) := by decide +kernel
theorem dX8_cuts_42 : decode cX8_cuts 42 = .ok (.getfield 7, 3) := by decide +kernel
theorem dX8_cuts_45 : decode cX8_cuts 45 = .ok (.iconst 0, 1) := by decide +kernel
theorem dX8_cuts_46 : decode cX8_cuts 46 = .ok (.iaload, 1) := by decide +kernel
theorem dX8_cuts_47 : decode cX8_cuts 47 = .ok (.isub, 1) := by decide +kernel
theorem dX8_cuts_48 : decode cX8_cuts 48 = .ok (.istore 4, 2) := by decide +kernel
theorem dX8_cuts_50 : decode cX8_cuts 50 = .ok (.aload_n 0, 1) := by decide +kernel
theorem dX8_cuts_51 : decode cX8_cuts 51 = .ok (.iload_n 1, 1) := by decide +kernel
theorem dX8_cuts_52 : decode cX8_cuts 52 = .ok (.invokevirtual 106, 3) := by decide +kernel
theorem dX8_cuts_55 : decode cX8_cuts 55 = .ok (.ifCond .eq 9, 3) := by decide +kernel
theorem dX8_cuts_58 : decode cX8_cuts 58 = .ok (.iload 4, 2) := by decide +kernel
theorem dX8_cuts_60 : decode cX8_cuts 60 = .ok (.iconst 1, 1) := by decide +kernel
theorem dX8_cuts_61 : decode cX8_cuts 61 = .ok (.if_icmp .ge 6, 3) := by decide +kernel
theorem dX8_cuts_64 : decode cX8_cuts 64 = .ok (.bipush (-5), 2) := by decide +kernel
theorem dX8_cuts_66 : decode cX8_cuts 66 = .ok (.ireturn, 1) := by decide +kernel
theorem dX8_cuts_67 : decode cX8_cuts 67 = .ok (.aload_n 0, 1) := by decide +kernel
theorem dX8_cuts_68 : decode cX8_cuts 68 = .ok (.getfield 7, 3) := by decide +kernel
theorem dX8_cuts_71 : decode cX8_cuts 71 = .ok (.iconst 5, 1) := by decide +kernel
theorem dX8_cuts_72 : decode cX8_cuts 72 = .ok (.iaload, 1) := by decide +kernel
theorem dX8_cuts_73 : decode cX8_cuts 73 = .ok (.iconst 2, 1) := by decide +kernel
theorem dX8_cuts_74 : decode cX8_cuts 74 = .ok (.iadd, 1) := by decide +kernel
theorem dX8_cuts_75 : decode cX8_cuts 75 = .ok (.bipush 24, 2) := by decide +kernel
theorem dX8_cuts_77 : decode cX8_cuts 77 = .ok (.if_icmp .le 6, 3) := by decide +kernel
theorem dX8_cuts_80 : decode cX8_cuts 80 = .ok (.bipush (-4), 2) := by decide +kernel
theorem dX8_cuts_82 : decode cX8_cuts 82 = .ok (.ireturn, 1) := by decide +kernel
theorem dX8_cuts_83 : decode cX8_cuts 83 = .ok (.aload_n 0, 1) := by decide +kernel
theorem dX8_cuts_84 : decode cX8_cuts 84 = .ok (.getfield 7, 3) := by decide +kernel
theorem dX8_cuts_87 : decode cX8_cuts 87 = .ok (.iconst 5, 1) := by decide +kernel
theorem dX8_cuts_88 : decode cX8_cuts 88 = .ok (.iaload, 1) := by decide +kernel
theorem dX8_cuts_89 : decode cX8_cuts 89 = .ok (.istore 5, 2) := by decide +kernel
theorem dX8_cuts_91 : decode cX8_cuts 91 = .ok (.aload_n 0, 1) := by decide +kernel
theorem dX8_cuts_92 : decode cX8_cuts 92 = .ok (.iload_n 1, 1) := by decide +kernel
theorem dX8_cuts_93 : decode cX8_cuts 93 = .ok (.iconst 1, 1) := by decide +kernel
theorem dX8_cuts_94 : decode cX8_cuts 94 = .ok (.invokevirtual 50, 3) := by decide +kernel
theorem dX8_cuts_97 : decode cX8_cuts 97 = .ok (.istore 6, 2) := by decide +kernel
theorem dX8_cuts_99 : decode cX8_cuts 99 = .ok (.aload_n 0, 1) := by decide +kernel
theorem dX8_cuts_100 : decode cX8_cuts 100 = .ok (.getfield 7, 3) := by decide +kernel
theorem dX8_cuts_103 : decode cX8_cuts 103 = .ok (.bipush 9, 2) := by decide +kernel
theorem dX8_cuts_105 : decode cX8_cuts 105 = .ok (.dup2, 1) := by decide +kernel
theorem dX8_cuts_106 : decode cX8_cuts 106 = .ok (.iaload, 1) := by decide +kernel
theorem dX8_cuts_107 : decode cX8_cuts 107 = .ok (.aload_n 0, 1) := by decide +kernel
theorem dX8_cuts_108 : decode cX8_cuts 108 = .ok (.iload_n 1, 1) := by decide +kernel
theorem dX8_cuts_109 : decode cX8_cuts 109 = .ok (.invokevirtual 58, 3) := by decide +kernel
theorem dX8_cuts_112 : decode cX8_cuts 112 = .ok (.iadd, 1) := by decide +kernel
theorem dX8_cuts_113 : decode cX8_cuts 113 = .ok (.iastore, 1) := by decide +kernel
theorem dX8_cuts_114 : decode cX8_cuts 114 = .ok (.aload_n 0, 1) := by decide +kernel
theorem dX8_cuts_115 : decode cX8_cuts 115 = .ok (.iload_n 1, 1) := by decide +kernel
theorem dX8_cuts_116 : decode cX8_cuts 116 = .ok (.iload_n 2, 1) := by decide +kernel
theorem dX8_cuts_117 : decode cX8_cuts 117 = .ok (.iload_n 3, 1) := by decide +kernel
theorem dX8_cuts_118 : decode cX8_cuts 118 = .ok (.invokevirtual 109, 3) := by decide +kernel
theorem dX8_cuts_121 : decode cX8_cuts 121 = .ok (.aload_n 0, 1) := by decide +kernel
theorem dX8_cuts_122 : decode cX8_cuts 122 = .ok (.iload_n 1, 1) := by decide +kernel
theorem dX8_cuts_123 : decode cX8_cuts 123 = .ok (.iload_n 2, 1) := by decide +kernel
theorem dX8_cuts_124 : decode cX8_cuts 124 = .ok (.iload 4, 2) := by decide +kernel
theorem dX8_cuts_126 : decode cX8_cuts 126 = .ok (.invokevirtual 109, 3) := by decide +kernel
theorem dX8_cuts_129 : decode cX8_cuts 129 = .ok (.aload_n 0, 1) := by decide +kernel
theorem dX8_cuts_130 : decode cX8_cuts 130 = .ok (.getfield 7, 3) := by decide +kernel
theorem dX8_cuts_133 : decode cX8_cuts 133 = .ok (.iload_n 1, 1) := by decide +kernel
theorem dX8_cuts_134 : decode cX8_cuts 134 = .ok (.iconst 4, 1) := by decide +kernel
theorem dX8_cuts_135 : decode cX8_cuts 135 = .ok (.invokestatic 47, 3) := by decide +kernel
theorem dX8_cuts_138 : decode cX8_cuts 138 = .ok (.iconst 4, 1) := by decide +kernel
theorem dX8_cuts_139 : decode cX8_cuts 139 = .ok (.iastore, 1) := by decide +kernel
theorem dX8_cuts_140 : decode cX8_cuts 140 = .ok (.iload 5, 2) := by decide +kernel
theorem dX8_cuts_142 : decode cX8_cuts 142 = .ok (.istore 7, 2) := by decide +kernel
theorem dX8_cuts_144 : decode cX8_cuts 144 = .ok (.iload 7, 2) := by decide +kernel
theorem dX8_cuts_146 : decode cX8_cuts 146 = .ok (.iload 5, 2) := by decide +kernel
theorem dX8_cuts_148 : decode cX8_cuts 148 = .ok (.iconst 2, 1) := by decide +kernel
theorem dX8_cuts_149 : decode cX8_cuts 149 = .ok (.iadd, 1) := by decide +kernel
theorem dX8_cuts_150 : decode cX8_cuts 150 = .ok (.if_icmp .ge 38, 3) := by decide +kernel
theorem dX8_cuts_153 : decode cX8_cuts 153 = .ok (.aload_n 0, 1) := by decide +kernel
theorem dX8_cuts_154 : decode cX8_cuts 154 = .ok (.getfield 7, 3) := by decide +kernel
theorem dX8_cuts_157 : decode cX8_cuts 157 = .ok (.iload 7, 2) := by decide +kernel
theorem dX8_cuts_159 : decode cX8_cuts 159 = .ok (.iconst 4, 1) := by decide +kernel
theorem dX8_cuts_160 : decode cX8_cuts 160 = .ok (.invokestatic 47, 3) := by decide +kernel
theorem dX8_cuts_163 : decode cX8_cuts 163 = .ok (.iload 6, 2) := by decide +kernel
theorem dX8_cuts_165 : decode cX8_cuts 165 = .ok (.ifCond .eq 15, 3) := by decide +kernel
theorem dX8_cuts_168 : decode cX8_cuts 168 = .ok (.aload_n 0, 1) := by decide +kernel
theorem dX8_cuts_169 : decode cX8_cuts 169 = .ok (.invokevirtual 112, 3) := by decide +kernel
theorem dX8_cuts_172 : decode cX8_cuts 172 = .ok (.iconst 4, 1) := by decide +kernel
theorem dX8_cuts_173 : decode cX8_cuts 173 = .ok (.if_icmp .ge 7, 3) := by decide +kernel
theorem dX8_cuts_176 : decode cX8_cuts 176 = .ok (.iconst 1, 1) := by decide +kernel
theorem dX8_cuts_177 : decode cX8_cuts 177 = .ok (.goto 4, 3) := by decide +kernel
theorem dX8_cuts_180 : decode cX8_cuts 180 = .ok (.iconst 0, 1) := by decide +kernel
theorem dX8_cuts_181 : decode cX8_cuts 181 = .ok (.iastore, 1) := by decide +kernel
theorem dX8_cuts_182 : decode cX8_cuts 182 = .ok (.iinc 7 1, 3) := by decide +kernel
theorem dX8_cuts_185 : decode cX8_cuts 185 = .ok (.goto (-41), 3) := by decide +kernel
theorem dX8_cuts_188 : decode cX8_cuts 188 = .ok (.iload 5, 2) := by decide +kernel
theorem dX8_cuts_190 : decode cX8_cuts 190 = .ok (.ireturn, 1) := by decide +kernel
theorem dX8_orders_0 : decode cX8_orders 0 = .ok (.iload_n 1, 1) := by decide +kernel
theorem dX8_orders_1 : decode cX8_orders 1 = .ok (.invokestatic 97, 3) := by decide +kernel
theorem dX8_orders_4 : decode cX8_orders 4 = .ok (.ifCond .eq 17, 3) := by decide +kernel
theorem dX8_orders_7 : decode cX8_orders 7 = .ok (.iload_n 2, 1) := by decide +kernel
theorem dX8_orders_8 : decode cX8_orders 8 = .ok (.invokestatic 97, 3) := by decide +kernel
theorem dX8_orders_11 : decode cX8_orders 11 = .ok (.ifCond .eq 10, 3) := by decide +kernel
theorem dX8_orders_14 : decode cX8_orders 14 = .ok (.iload_n 3, 1) := by decide +kernel
theorem dX8_orders_15 : decode cX8_orders 15 = .ok (.invokestatic 97, 3) := by decide +kernel
theorem dX8_orders_18 : decode cX8_orders 18 = .ok (.ifCond .ne 6, 3) := by decide +kernel
theorem dX8_orders_21 : decode cX8_orders 21 = .ok (.bipush (-2), 2) := by decide +kernel
theorem dX8_orders_23 : decode cX8_orders 23 = .ok (.ireturn, 1) := by decide +kernel
theorem dX8_orders_24 : decode cX8_orders 24 = .ok (.aload_n 0, 1) := by decide +kernel
theorem dX8_orders_25 : decode cX8_orders 25 = .ok (.getfield 7, 3) := by decide +kernel
theorem dX8_orders_28 : decode cX8_orders 28 = .ok (.bipush 6, 2) := by decide +kernel
theorem dX8_orders_30 : decode cX8_orders 30 = .ok (.iaload, 1) := by decide +kernel
theorem dX8_orders_31 : decode cX8_orders 31 = .ok (.bipush 10, 2) := by decide +kernel
theorem dX8_orders_33 : decode cX8_orders 33 = .ok (.if_icmp .ne 6, 3) := by decide +kernel
theorem dX8_orders_36 : decode cX8_orders 36 = .ok (.bipush (-4), 2) := by decide +kernel
theorem dX8_orders_38 : decode cX8_orders 38 = .ok (.ireturn, 1) := by decide +kernel
theorem dX8_orders_39 : decode cX8_orders 39 = .ok (.aload_n 0, 1) := by decide +kernel
theorem dX8_orders_40 : decode cX8_orders 40 = .ok (.getfield 7, 3) := by decide +kernel
theorem dX8_orders_43 : decode cX8_orders 43 = .ok (.bipush 6, 2) := by decide +kernel
theorem dX8_orders_45 : decode cX8_orders 45 = .ok (.iaload, 1) := by decide +kernel
theorem dX8_orders_46 : decode cX8_orders 46 = .ok (.istore 4, 2) := by decide +kernel
theorem dX8_orders_48 : decode cX8_orders 48 = .ok (.aload_n 0, 1) := by decide +kernel
theorem dX8_orders_49 : decode cX8_orders 49 = .ok (.getfield 7, 3) := by decide +kernel
theorem dX8_orders_52 : decode cX8_orders 52 = .ok (.bipush 6, 2) := by decide +kernel
theorem dX8_orders_54 : decode cX8_orders 54 = .ok (.dup2, 1) := by decide +kernel
theorem dX8_orders_55 : decode cX8_orders 55 = .ok (.iaload, 1) := by decide +kernel
theorem dX8_orders_56 : decode cX8_orders 56 = .ok (.iconst 1, 1) := by decide +kernel
theorem dX8_orders_57 : decode cX8_orders 57 = .ok (.iadd, 1) := by decide +kernel
theorem dX8_orders_58 : decode cX8_orders 58 = .ok (.iastore, 1) := by decide +kernel
theorem dX8_orders_59 : decode cX8_orders 59 = .ok (.aload_n 0, 1) := by decide +kernel
theorem dX8_orders_60 : decode cX8_orders 60 = .ok (.iload_n 1, 1) := by decide +kernel
theorem dX8_orders_61 : decode cX8_orders 61 = .ok (.iload_n 2, 1) := by decide +kernel
theorem dX8_orders_62 : decode cX8_orders 62 = .ok (.iload_n 3, 1) := by decide +kernel
theorem dX8_orders_63 : decode cX8_orders 63 = .ok (.invokevirtual 62, 3) := by decide +kernel
theorem dX8_orders_66 : decode cX8_orders 66 = .ok (.iconst 0, 1) := by decide +kernel
theorem dX8_orders_67 : decode cX8_orders 67 = .ok (.istore 5, 2) := by decide +kernel
theorem dX8_orders_69 : decode cX8_orders 69 = .ok (.iload 5, 2) := by decide +kernel
theorem dX8_orders_71 : decode cX8_orders 71 = .ok (.iconst 3, 1) := by decide +kernel
theorem dX8_orders_72 : decode cX8_orders 72 = .ok (.if_icmp .ge 28, 3) := by decide +kernel
theorem dX8_orders_75 : decode cX8_orders 75 = .ok (.aload_n 0, 1) := by decide +kernel
theorem dX8_orders_76 : decode cX8_orders 76 = .ok (.getfield 7, 3) := by decide +kernel
theorem dX8_orders_79 : decode cX8_orders 79 = .ok (.iload 4, 2) := by decide +kernel
theorem dX8_orders_81 : decode cX8_orders 81 = .ok (.iload 5, 2) := by decide +kernel
theorem dX8_orders_83 : decode cX8_orders 83 = .ok (.invokestatic 66, 3) := by decide +kernel
theorem dX8_orders_86 : decode cX8_orders 86 = .ok (.aload_n 0, 1) := by decide +kernel
theorem dX8_orders_87 : decode cX8_orders 87 = .ok (.getfield 29, 3) := by decide +kernel
theorem dX8_orders_90 : decode cX8_orders 90 = .ok (.iload 5, 2) := by decide +kernel
theorem dX8_orders_92 : decode cX8_orders 92 = .ok (.iaload, 1) := by decide +kernel
theorem dX8_orders_93 : decode cX8_orders 93 = .ok (.iastore, 1) := by decide +kernel
theorem dX8_orders_94 : decode cX8_orders 94 = .ok (.iinc 5 1, 3) := by decide +kernel
theorem dX8_orders_97 : decode cX8_orders 97 = .ok (.goto (-28), 3) := by decide +kernel
theorem dX8_orders_100 : decode cX8_orders 100 = .ok (.aload_n 0, 1) := by decide +kernel
theorem dX8_orders_101 : decode cX8_orders 101 = .ok (.getfield 7, 3) := by decide +kernel
theorem dX8_orders_104 : decode cX8_orders 104 = .ok (.iload 4, 2) := by decide +kernel
theorem dX8_orders_106 : decode cX8_orders 106 = .ok (.iconst 3, 1) := by decide +kernel
theorem dX8_orders_107 : decode cX8_orders 107 = .ok (.invokestatic 66, 3) := by decide +kernel
theorem dX8_orders_110 : decode cX8_orders 110 = .ok (.iconst 0, 1) := by decide +kernel
theorem dX8_orders_111 : decode cX8_orders 111 = .ok (.iastore, 1) := by decide +kernel
theorem dX8_orders_112 : decode cX8_orders 112 = .ok (.aload_n 0, 1) := by decide +kernel
theorem dX8_orders_113 : decode cX8_orders 113 = .ok (.getfield 7, 3) := by decide +kernel
theorem dX8_orders_116 : decode cX8_orders 116 = .ok (.iload 4, 2) := by decide +kernel
theorem dX8_orders_118 : decode cX8_orders 118 = .ok (.iconst 4, 1) := by decide +kernel
theorem dX8_orders_119 : decode cX8_orders 119 = .ok (.invokestatic 66, 3) := by decide +kernel
theorem dX8_orders_122 : decode cX8_orders 122 = .ok (.bipush (-6), 2) := by decide +kernel
theorem dX8_orders_124 : decode cX8_orders 124 = .ok (.iastore, 1) := by decide +kernel
theorem dX8_orders_125 : decode cX8_orders 125 = .ok (.aload_n 0, 1) := by decide +kernel
theorem dX8_orders_126 : decode cX8_orders 126 = .ok (.getfield 7, 3) := by decide +kernel
theorem dX8_orders_129 : decode cX8_orders 129 = .ok (.iload 4, 2) := by decide +kernel
theorem dX8_orders_131 : decode cX8_orders 131 = .ok (.iconst 5, 1) := by decide +kernel
theorem dX8_orders_132 : decode cX8_orders 132 = .ok (.invokestatic 66, 3) := by decide +kernel
theorem dX8_orders_135 : decode cX8_orders 135 = .ok (.bipush (-6), 2) := by decide +kernel
theorem dX8_orders_137 : decode cX8_orders 137 = .ok (.iastore, 1) := by decide +kernel
theorem dX8_orders_138 : decode cX8_orders 138 = .ok (.iload 4, 2) := by decide +kernel
theorem dX8_orders_140 : decode cX8_orders 140 = .ok (.ireturn, 1) := by decide +kernel
theorem dX8_gives_0 : decode cX8_gives 0 = .ok (.aload_n 0, 1) := by decide +kernel
theorem dX8_gives_1 : decode cX8_gives 1 = .ok (.iload_n 1, 1) := by decide +kernel
theorem dX8_gives_2 : decode cX8_gives 2 = .ok (.invokevirtual 116, 3) := by decide +kernel
theorem dX8_gives_5 : decode cX8_gives 5 = .ok (.ifCond .eq 11, 3) := by decide +kernel
theorem dX8_gives_8 : decode cX8_gives 8 = .ok (.aload_n 0, 1) := by decide +kernel
theorem dX8_gives_9 : decode cX8_gives 9 = .ok (.iload_n 2, 1) := by decide +kernel
theorem dX8_gives_10 : decode cX8_gives 10 = .ok (.invokevirtual 103, 3) := by decide +kernel
theorem dX8_gives_13 : decode cX8_gives 13 = .ok (.ifCond .ne 5, 3) := by decide +kernel
theorem dX8_gives_16 : decode cX8_gives 16 = .ok (.iconst (-1), 1) := by decide +kernel
theorem dX8_gives_17 : decode cX8_gives 17 = .ok (.ireturn, 1) := by decide +kernel
theorem dX8_gives_18 : decode cX8_gives 18 = .ok (.aload_n 0, 1) := by decide +kernel
theorem dX8_gives_19 : decode cX8_gives 19 = .ok (.iload_n 1, 1) := by decide +kernel
theorem dX8_gives_20 : decode cX8_gives 20 = .ok (.iload_n 2, 1) := by decide +kernel
theorem dX8_gives_21 : decode cX8_gives 21 = .ok (.invokevirtual 119, 3) := by decide +kernel
theorem dX8_gives_24 : decode cX8_gives 24 = .ok (.ifCond .ne 6, 3) := by decide +kernel
theorem dX8_gives_27 : decode cX8_gives 27 = .ok (.bipush (-5), 2) := by decide +kernel
theorem dX8_gives_29 : decode cX8_gives 29 = .ok (.ireturn, 1) := by decide +kernel
theorem dX8_gives_30 : decode cX8_gives 30 = .ok (.aload_n 0, 1) := by decide +kernel
theorem dX8_gives_31 : decode cX8_gives 31 = .ok (.getfield 7, 3) := by decide +kernel
theorem dX8_gives_34 : decode cX8_gives 34 = .ok (.iload_n 1, 1) := by decide +kernel
theorem dX8_gives_35 : decode cX8_gives 35 = .ok (.iconst 3, 1) := by decide +kernel
theorem dX8_gives_36 : decode cX8_gives 36 = .ok (.invokestatic 66, 3) := by decide +kernel
theorem dX8_gives_39 : decode cX8_gives 39 = .ok (.iconst 1, 1) := by decide +kernel
theorem dX8_gives_40 : decode cX8_gives 40 = .ok (.iastore, 1) := by decide +kernel
theorem dX8_gives_41 : decode cX8_gives 41 = .ok (.aload_n 0, 1) := by decide +kernel
theorem dX8_gives_42 : decode cX8_gives 42 = .ok (.getfield 7, 3) := by decide +kernel
theorem dX8_gives_45 : decode cX8_gives 45 = .ok (.iload_n 1, 1) := by decide +kernel
theorem dX8_gives_46 : decode cX8_gives 46 = .ok (.iconst 4, 1) := by decide +kernel
theorem dX8_gives_47 : decode cX8_gives 47 = .ok (.invokestatic 66, 3) := by decide +kernel
theorem dX8_gives_50 : decode cX8_gives 50 = .ok (.iload_n 2, 1) := by decide +kernel
theorem dX8_gives_51 : decode cX8_gives 51 = .ok (.iastore, 1) := by decide +kernel
theorem dX8_gives_52 : decode cX8_gives 52 = .ok (.aload_n 0, 1) := by decide +kernel
theorem dX8_gives_53 : decode cX8_gives 53 = .ok (.getfield 7, 3) := by decide +kernel
theorem dX8_gives_56 : decode cX8_gives 56 = .ok (.iload_n 2, 1) := by decide +kernel
theorem dX8_gives_57 : decode cX8_gives 57 = .ok (.bipush 7, 2) := by decide +kernel
theorem dX8_gives_59 : decode cX8_gives 59 = .ok (.invokestatic 47, 3) := by decide +kernel
theorem dX8_gives_62 : decode cX8_gives 62 = .ok (.iload_n 1, 1) := by decide +kernel
theorem dX8_gives_63 : decode cX8_gives 63 = .ok (.iastore, 1) := by decide +kernel
theorem dX8_gives_64 : decode cX8_gives 64 = .ok (.aload_n 0, 1) := by decide +kernel
theorem dX8_gives_65 : decode cX8_gives 65 = .ok (.iload_n 1, 1) := by decide +kernel
theorem dX8_gives_66 : decode cX8_gives 66 = .ok (.iload_n 2, 1) := by decide +kernel
theorem dX8_gives_67 : decode cX8_gives 67 = .ok (.invokevirtual 72, 3) := by decide +kernel
theorem dX8_gives_70 : decode cX8_gives 70 = .ok (.ireturn, 1) := by decide +kernel
theorem dX8_loads_0 : decode cX8_loads 0 = .ok (.aload_n 0, 1) := by decide +kernel
theorem dX8_loads_1 : decode cX8_loads 1 = .ok (.iload_n 1, 1) := by decide +kernel
theorem dX8_loads_2 : decode cX8_loads 2 = .ok (.invokevirtual 103, 3) := by decide +kernel
theorem dX8_loads_5 : decode cX8_loads 5 = .ok (.ifCond .eq 19, 3) := by decide +kernel
theorem dX8_loads_8 : decode cX8_loads 8 = .ok (.iload_n 2, 1) := by decide +kernel
theorem dX8_loads_9 : decode cX8_loads 9 = .ok (.invokestatic 122, 3) := by decide +kernel
theorem dX8_loads_12 : decode cX8_loads 12 = .ok (.ifCond .eq 12, 3) := by decide +kernel
theorem dX8_loads_15 : decode cX8_loads 15 = .ok (.iload_n 3, 1) := by decide +kernel
theorem dX8_loads_16 : decode cX8_loads 16 = .ok (.iconst 0, 1) := by decide +kernel
theorem dX8_loads_17 : decode cX8_loads 17 = .ok (.iconst 4, 1) := by decide +kernel
theorem dX8_loads_18 : decode cX8_loads 18 = .ok (.invokestatic 39, 3) := by decide +kernel
theorem dX8_loads_21 : decode cX8_loads 21 = .ok (.ifCond .ne 5, 3) := by decide +kernel
theorem dX8_loads_24 : decode cX8_loads 24 = .ok (.iconst (-1), 1) := by decide +kernel
theorem dX8_loads_25 : decode cX8_loads 25 = .ok (.ireturn, 1) := by decide +kernel
theorem dX8_loads_26 : decode cX8_loads 26 = .ok (.aload_n 0, 1) := by decide +kernel
theorem dX8_loads_27 : decode cX8_loads 27 = .ok (.iload_n 1, 1) := by decide +kernel
theorem dX8_loads_28 : decode cX8_loads 28 = .ok (.invokevirtual 100, 3) := by decide +kernel
theorem dX8_loads_31 : decode cX8_loads 31 = .ok (.ifCond .eq 14, 3) := by decide +kernel
theorem dX8_loads_34 : decode cX8_loads 34 = .ok (.aload_n 0, 1) := by decide +kernel
theorem dX8_loads_35 : decode cX8_loads 35 = .ok (.iload_n 2, 1) := by decide +kernel
theorem dX8_loads_36 : decode cX8_loads 36 = .ok (.iload_n 3, 1) := by decide +kernel
theorem dX8_loads_37 : decode cX8_loads 37 = .ok (.invokevirtual 75, 3) := by decide +kernel
theorem dX8_loads_40 : decode cX8_loads 40 = .ok (.bipush (-6), 2) := by decide +kernel
theorem dX8_loads_42 : decode cX8_loads 42 = .ok (.if_icmp .eq 6, 3) := by decide +kernel
theorem dX8_loads_45 : decode cX8_loads 45 = .ok (.bipush (-5), 2) := by decide +kernel
theorem dX8_loads_47 : decode cX8_loads 47 = .ok (.ireturn, 1) := by decide +kernel
theorem dX8_loads_48 : decode cX8_loads 48 = .ok (.aload_n 0, 1) := by decide +kernel
theorem dX8_loads_49 : decode cX8_loads 49 = .ok (.getfield 7, 3) := by decide +kernel
theorem dX8_loads_52 : decode cX8_loads 52 = .ok (.iload_n 1, 1) := by decide +kernel
theorem dX8_loads_53 : decode cX8_loads 53 = .ok (.iconst 4, 1) := by decide +kernel
theorem dX8_loads_54 : decode cX8_loads 54 = .ok (.invokestatic 47, 3) := by decide +kernel
theorem dX8_loads_57 : decode cX8_loads 57 = .ok (.iconst 2, 1) := by decide +kernel
theorem dX8_loads_58 : decode cX8_loads 58 = .ok (.iastore, 1) := by decide +kernel
theorem dX8_loads_59 : decode cX8_loads 59 = .ok (.aload_n 0, 1) := by decide +kernel
theorem dX8_loads_60 : decode cX8_loads 60 = .ok (.getfield 7, 3) := by decide +kernel
theorem dX8_loads_63 : decode cX8_loads 63 = .ok (.iload_n 1, 1) := by decide +kernel
theorem dX8_loads_64 : decode cX8_loads 64 = .ok (.bipush 8, 2) := by decide +kernel
theorem dX8_loads_66 : decode cX8_loads 66 = .ok (.invokestatic 47, 3) := by decide +kernel
theorem dX8_loads_69 : decode cX8_loads 69 = .ok (.iconst 5, 1) := by decide +kernel
theorem dX8_loads_70 : decode cX8_loads 70 = .ok (.iload_n 2, 1) := by decide +kernel
theorem dX8_loads_71 : decode cX8_loads 71 = .ok (.imul, 1) := by decide +kernel
theorem dX8_loads_72 : decode cX8_loads 72 = .ok (.iload_n 3, 1) := by decide +kernel
theorem dX8_loads_73 : decode cX8_loads 73 = .ok (.iadd, 1) := by decide +kernel
theorem dX8_loads_74 : decode cX8_loads 74 = .ok (.iastore, 1) := by decide +kernel
theorem dX8_loads_75 : decode cX8_loads 75 = .ok (.aload_n 0, 1) := by decide +kernel
theorem dX8_loads_76 : decode cX8_loads 76 = .ok (.iload_n 2, 1) := by decide +kernel
theorem dX8_loads_77 : decode cX8_loads 77 = .ok (.invokevirtual 90, 3) := by decide +kernel
theorem dX8_loads_80 : decode cX8_loads 80 = .ok (.ireturn, 1) := by decide +kernel
theorem dX8_leaves_0 : decode cX8_leaves 0 = .ok (.iload_n 1, 1) := by decide +kernel
theorem dX8_leaves_1 : decode cX8_leaves 1 = .ok (.invokestatic 122, 3) := by decide +kernel
theorem dX8_leaves_4 : decode cX8_leaves 4 = .ok (.ifCond .ne 5, 3) := by decide +kernel
theorem dX8_leaves_7 : decode cX8_leaves 7 = .ok (.iconst (-1), 1) := by decide +kernel
theorem dX8_leaves_8 : decode cX8_leaves 8 = .ok (.ireturn, 1) := by decide +kernel
theorem dX8_leaves_9 : decode cX8_leaves 9 = .ok (.aload_n 0, 1) := by decide +kernel
theorem dX8_leaves_10 : decode cX8_leaves 10 = .ok (.iload_n 1, 1) := by decide +kernel
theorem dX8_leaves_11 : decode cX8_leaves 11 = .ok (.invokevirtual 125, 3) := by decide +kernel
theorem dX8_leaves_14 : decode cX8_leaves 14 = .ok (.ifCond .le 6, 3) := by decide +kernel
theorem dX8_leaves_17 : decode cX8_leaves 17 = .ok (.bipush (-5), 2) := by decide +kernel
theorem dX8_leaves_19 : decode cX8_leaves 19 = .ok (.ireturn, 1) := by decide +kernel
theorem dX8_leaves_20 : decode cX8_leaves 20 = .ok (.iconst 0, 1) := by decide +kernel
theorem dX8_leaves_21 : decode cX8_leaves 21 = .ok (.istore_n 2, 1) := by decide +kernel
theorem dX8_leaves_22 : decode cX8_leaves 22 = .ok (.iconst 0, 1) := by decide +kernel
theorem dX8_leaves_23 : decode cX8_leaves 23 = .ok (.istore_n 3, 1) := by decide +kernel
theorem dX8_leaves_24 : decode cX8_leaves 24 = .ok (.iload_n 3, 1) := by decide +kernel
theorem dX8_leaves_25 : decode cX8_leaves 25 = .ok (.iconst 5, 1) := by decide +kernel
theorem dX8_leaves_26 : decode cX8_leaves 26 = .ok (.if_icmp .ge 37, 3) := by decide +kernel
theorem dX8_leaves_29 : decode cX8_leaves 29 = .ok (.aload_n 0, 1) := by decide +kernel
theorem dX8_leaves_30 : decode cX8_leaves 30 = .ok (.iload_n 1, 1) := by decide +kernel
theorem dX8_leaves_31 : decode cX8_leaves 31 = .ok (.iload_n 3, 1) := by decide +kernel
theorem dX8_leaves_32 : decode cX8_leaves 32 = .ok (.invokevirtual 75, 3) := by decide +kernel
theorem dX8_leaves_35 : decode cX8_leaves 35 = .ok (.istore 4, 2) := by decide +kernel
theorem dX8_leaves_37 : decode cX8_leaves 37 = .ok (.iload_n 2, 1) := by decide +kernel
theorem dX8_leaves_38 : decode cX8_leaves 38 = .ok (.iload 4, 2) := by decide +kernel
theorem dX8_leaves_40 : decode cX8_leaves 40 = .ok (.bipush (-6), 2) := by decide +kernel
theorem dX8_leaves_42 : decode cX8_leaves 42 = .ok (.if_icmp .ne 7, 3) := by decide +kernel
theorem dX8_leaves_45 : decode cX8_leaves 45 = .ok (.iconst 0, 1) := by decide +kernel
theorem dX8_leaves_46 : decode cX8_leaves 46 = .ok (.goto 9, 3) := by decide +kernel
theorem dX8_leaves_49 : decode cX8_leaves 49 = .ok (.aload_n 0, 1) := by decide +kernel
theorem dX8_leaves_50 : decode cX8_leaves 50 = .ok (.iload 4, 2) := by decide +kernel
theorem dX8_leaves_52 : decode cX8_leaves 52 = .ok (.invokevirtual 128, 3) := by decide +kernel
theorem dX8_leaves_55 : decode cX8_leaves 55 = .ok (.iadd, 1) := by decide +kernel
theorem dX8_leaves_56 : decode cX8_leaves 56 = .ok (.istore_n 2, 1) := by decide +kernel
theorem dX8_leaves_57 : decode cX8_leaves 57 = .ok (.iinc 3 1, 3) := by decide +kernel
theorem dX8_leaves_60 : decode cX8_leaves 60 = .ok (.goto (-36), 3) := by decide +kernel
theorem dX8_leaves_63 : decode cX8_leaves 63 = .ok (.aload_n 0, 1) := by decide +kernel
theorem dX8_leaves_64 : decode cX8_leaves 64 = .ok (.getfield 7, 3) := by decide +kernel
theorem dX8_leaves_67 : decode cX8_leaves 67 = .ok (.bipush 11, 2) := by decide +kernel
theorem dX8_leaves_69 : decode cX8_leaves 69 = .ok (.dup2, 1) := by decide +kernel
theorem dX8_leaves_70 : decode cX8_leaves 70 = .ok (.iaload, 1) := by decide +kernel
theorem dX8_leaves_71 : decode cX8_leaves 71 = .ok (.iload_n 2, 1) := by decide +kernel
theorem dX8_leaves_72 : decode cX8_leaves 72 = .ok (.iadd, 1) := by decide +kernel
theorem dX8_leaves_73 : decode cX8_leaves 73 = .ok (.iastore, 1) := by decide +kernel
theorem dX8_leaves_74 : decode cX8_leaves 74 = .ok (.aload_n 0, 1) := by decide +kernel
theorem dX8_leaves_75 : decode cX8_leaves 75 = .ok (.getfield 7, 3) := by decide +kernel
theorem dX8_leaves_78 : decode cX8_leaves 78 = .ok (.iload_n 1, 1) := by decide +kernel
theorem dX8_leaves_79 : decode cX8_leaves 79 = .ok (.iconst 3, 1) := by decide +kernel
theorem dX8_leaves_80 : decode cX8_leaves 80 = .ok (.invokestatic 35, 3) := by decide +kernel
theorem dX8_leaves_83 : decode cX8_leaves 83 = .ok (.dup2, 1) := by decide +kernel
theorem dX8_leaves_84 : decode cX8_leaves 84 = .ok (.iaload, 1) := by decide +kernel
theorem dX8_leaves_85 : decode cX8_leaves 85 = .ok (.iconst 1, 1) := by decide +kernel
theorem dX8_leaves_86 : decode cX8_leaves 86 = .ok (.iadd, 1) := by decide +kernel
theorem dX8_leaves_87 : decode cX8_leaves 87 = .ok (.iastore, 1) := by decide +kernel
theorem dX8_leaves_88 : decode cX8_leaves 88 = .ok (.iload_n 2, 1) := by decide +kernel
theorem dX8_leaves_89 : decode cX8_leaves 89 = .ok (.ireturn, 1) := by decide +kernel
theorem dX8_wouldCrack_0 : decode cX8_wouldCrack 0 = .ok (.aload_n 0, 1) := by decide +kernel
theorem dX8_wouldCrack_1 : decode cX8_wouldCrack 1 = .ok (.iload_n 1, 1) := by decide +kernel
theorem dX8_wouldCrack_2 : decode cX8_wouldCrack 2 = .ok (.iconst 0, 1) := by decide +kernel
theorem dX8_wouldCrack_3 : decode cX8_wouldCrack 3 = .ok (.invokevirtual 50, 3) := by decide +kernel
theorem dX8_wouldCrack_6 : decode cX8_wouldCrack 6 = .ok (.ifCond .eq 34, 3) := by decide +kernel
theorem dX8_wouldCrack_9 : decode cX8_wouldCrack 9 = .ok (.aload_n 0, 1) := by decide +kernel
theorem dX8_wouldCrack_10 : decode cX8_wouldCrack 10 = .ok (.getfield 7, 3) := by decide +kernel
theorem dX8_wouldCrack_13 : decode cX8_wouldCrack 13 = .ok (.iload_n 1, 1) := by decide +kernel
theorem dX8_wouldCrack_14 : decode cX8_wouldCrack 14 = .ok (.iconst 5, 1) := by decide +kernel
theorem dX8_wouldCrack_15 : decode cX8_wouldCrack 15 = .ok (.invokestatic 47, 3) := by decide +kernel
theorem dX8_wouldCrack_18 : decode cX8_wouldCrack 18 = .ok (.iaload, 1) := by decide +kernel
theorem dX8_wouldCrack_19 : decode cX8_wouldCrack 19 = .ok (.ifCond .le 21, 3) := by decide +kernel
theorem dX8_wouldCrack_22 : decode cX8_wouldCrack 22 = .ok (.aload_n 0, 1) := by decide +kernel
theorem dX8_wouldCrack_23 : decode cX8_wouldCrack 23 = .ok (.getfield 7, 3) := by decide +kernel
theorem dX8_wouldCrack_26 : decode cX8_wouldCrack 26 = .ok (.iload_n 1, 1) := by decide +kernel
theorem dX8_wouldCrack_27 : decode cX8_wouldCrack 27 = .ok (.bipush 6, 2) := by decide +kernel
theorem dX8_wouldCrack_29 : decode cX8_wouldCrack 29 = .ok (.invokestatic 47, 3) := by decide +kernel
theorem dX8_wouldCrack_32 : decode cX8_wouldCrack 32 = .ok (.iaload, 1) := by decide +kernel
theorem dX8_wouldCrack_33 : decode cX8_wouldCrack 33 = .ok (.ifCond .ne 7, 3) := by decide +kernel
theorem dX8_wouldCrack_36 : decode cX8_wouldCrack 36 = .ok (.iconst 1, 1) := by decide +kernel
theorem dX8_wouldCrack_37 : decode cX8_wouldCrack 37 = .ok (.goto 4, 3) := by decide +kernel
theorem dX8_wouldCrack_40 : decode cX8_wouldCrack 40 = .ok (.iconst 0, 1) := by decide +kernel
theorem dX8_wouldCrack_41 : decode cX8_wouldCrack 41 = .ok (.ireturn, 1) := by decide +kernel
theorem dX8_nights_0 : decode cX8_nights 0 = .ok (.iload_n 1, 1) := by decide +kernel
theorem dX8_nights_1 : decode cX8_nights 1 = .ok (.bipush (-40), 2) := by decide +kernel
theorem dX8_nights_3 : decode cX8_nights 3 = .ok (.bipush 40, 2) := by decide +kernel
theorem dX8_nights_5 : decode cX8_nights 5 = .ok (.invokestatic 39, 3) := by decide +kernel
theorem dX8_nights_8 : decode cX8_nights 8 = .ok (.ifCond .ne 6, 3) := by decide +kernel
theorem dX8_nights_11 : decode cX8_nights 11 = .ok (.bipush (-2), 2) := by decide +kernel
theorem dX8_nights_13 : decode cX8_nights 13 = .ok (.ireturn, 1) := by decide +kernel
theorem dX8_nights_14 : decode cX8_nights 14 = .ok (.aload_n 0, 1) := by decide +kernel
theorem dX8_nights_15 : decode cX8_nights 15 = .ok (.getfield 7, 3) := by decide +kernel
theorem dX8_nights_18 : decode cX8_nights 18 = .ok (.iconst 4, 1) := by decide +kernel
theorem dX8_nights_19 : decode cX8_nights 19 = .ok (.iaload, 1) := by decide +kernel
theorem dX8_nights_20 : decode cX8_nights 20 = .ok (.sipush 999, 3) := by decide +kernel
theorem dX8_nights_23 : decode cX8_nights 23 = .ok (.if_icmp .ne 6, 3) := by decide +kernel
theorem dX8_nights_26 : decode cX8_nights 26 = .ok (.bipush (-5), 2) := by decide +kernel
theorem dX8_nights_28 : decode cX8_nights 28 = .ok (.ireturn, 1) := by decide +kernel
theorem dX8_nights_29 : decode cX8_nights 29 = .ok (.aload_n 0, 1) := by decide +kernel
theorem dX8_nights_30 : decode cX8_nights 30 = .ok (.getfield 7, 3) := by decide +kernel
theorem dX8_nights_33 : decode cX8_nights 33 = .ok (.bipush 7, 2) := by decide +kernel
theorem dX8_nights_35 : decode cX8_nights 35 = .ok (.iload_n 1, 1) := by decide +kernel
theorem dX8_nights_36 : decode cX8_nights 36 = .ok (.aload_n 0, 1) := by decide +kernel
theorem dX8_nights_37 : decode cX8_nights 37 = .ok (.getfield 7, 3) := by decide +kernel
theorem dX8_nights_40 : decode cX8_nights 40 = .ok (.iconst 2, 1) := by decide +kernel
theorem dX8_nights_41 : decode cX8_nights 41 = .ok (.iaload, 1) := by decide +kernel
theorem dX8_nights_42 : decode cX8_nights 42 = .ok (.if_icmp .gt 7, 3) := by decide +kernel
theorem dX8_nights_45 : decode cX8_nights 45 = .ok (.iconst 1, 1) := by decide +kernel
theorem dX8_nights_46 : decode cX8_nights 46 = .ok (.goto 4, 3) := by decide +kernel
theorem dX8_nights_49 : decode cX8_nights 49 = .ok (.iconst 0, 1) := by decide +kernel
theorem dX8_nights_50 : decode cX8_nights 50 = .ok (.iastore, 1) := by decide +kernel
theorem dX8_nights_51 : decode cX8_nights 51 = .ok (.iconst 0, 1) := by decide +kernel
theorem dX8_nights_52 : decode cX8_nights 52 = .ok (.istore_n 2, 1) := by decide +kernel
theorem dX8_nights_53 : decode cX8_nights 53 = .ok (.iconst 0, 1) := by decide +kernel
theorem dX8_nights_54 : decode cX8_nights 54 = .ok (.istore_n 3, 1) := by decide +kernel
theorem dX8_nights_55 : decode cX8_nights 55 = .ok (.iload_n 3, 1) := by decide +kernel
theorem dX8_nights_56 : decode cX8_nights 56 = .ok (.aload_n 0, 1) := by decide +kernel
theorem dX8_nights_57 : decode cX8_nights 57 = .ok (.getfield 7, 3) := by decide +kernel
theorem dX8_nights_60 : decode cX8_nights 60 = .ok (.iconst 5, 1) := by decide +kernel
theorem dX8_nights_61 : decode cX8_nights 61 = .ok (.iaload, 1) := by decide +kernel
theorem dX8_nights_62 : decode cX8_nights 62 = .ok (.if_icmp .ge 128, 3) := by decide +kernel
theorem dX8_nights_65 : decode cX8_nights 65 = .ok (.aload_n 0, 1) := by decide +kernel
theorem dX8_nights_66 : decode cX8_nights 66 = .ok (.getfield 7, 3) := by decide +kernel
theorem dX8_nights_69 : decode cX8_nights 69 = .ok (.bipush 7, 2) := by decide +kernel
theorem dX8_nights_71 : decode cX8_nights 71 = .ok (.iaload, 1) := by decide +kernel
theorem dX8_nights_72 : decode cX8_nights 72 = .ok (.iconst 1, 1) := by decide +kernel
theorem dX8_nights_73 : decode cX8_nights 73 = .ok (.if_icmp .ne 15, 3) := by decide +kernel
theorem dX8_nights_76 : decode cX8_nights 76 = .ok (.aload_n 0, 1) := by decide +kernel
theorem dX8_nights_77 : decode cX8_nights 77 = .ok (.iload_n 3, 1) := by decide +kernel
theorem dX8_nights_78 : decode cX8_nights 78 = .ok (.invokevirtual 131, 3) := by decide +kernel
theorem dX8_nights_81 : decode cX8_nights 81 = .ok (.ifCond .eq 7, 3) := by decide +kernel
theorem dX8_nights_84 : decode cX8_nights 84 = .ok (.iconst 1, 1) := by decide +kernel
theorem dX8_nights_85 : decode cX8_nights 85 = .ok (.goto 4, 3) := by decide +kernel
theorem dX8_nights_88 : decode cX8_nights 88 = .ok (.iconst 0, 1) := by decide +kernel
theorem dX8_nights_89 : decode cX8_nights 89 = .ok (.istore 4, 2) := by decide +kernel
theorem dX8_nights_91 : decode cX8_nights 91 = .ok (.aload_n 0, 1) := by decide +kernel
theorem dX8_nights_92 : decode cX8_nights 92 = .ok (.getfield 7, 3) := by decide +kernel
theorem dX8_nights_95 : decode cX8_nights 95 = .ok (.iload_n 3, 1) := by decide +kernel
theorem dX8_nights_96 : decode cX8_nights 96 = .ok (.bipush 6, 2) := by decide +kernel
theorem dX8_nights_98 : decode cX8_nights 98 = .ok (.invokestatic 47, 3) := by decide +kernel
theorem dX8_nights_101 : decode cX8_nights 101 = .ok (.iload 4, 2) := by decide +kernel
theorem dX8_nights_103 : decode cX8_nights 103 = .ok (.ifCond .eq 7, 3) := by decide +kernel
theorem dX8_nights_106 : decode cX8_nights 106 = .ok (.iconst 1, 1) := by decide +kernel
theorem dX8_nights_107 : decode cX8_nights 107 = .ok (.goto 14, 3) := by decide +kernel
theorem dX8_nights_110 : decode cX8_nights 110 = .ok (.aload_n 0, 1) := by decide +kernel
theorem dX8_nights_111 : decode cX8_nights 111 = .ok (.getfield 7, 3) := by decide +kernel
theorem dX8_nights_114 : decode cX8_nights 114 = .ok (.iload_n 3, 1) := by decide +kernel
theorem dX8_nights_115 : decode cX8_nights 115 = .ok (.bipush 6, 2) := by decide +kernel
theorem dX8_nights_117 : decode cX8_nights 117 = .ok (.invokestatic 47, 3) := by decide +kernel
theorem dX8_nights_120 : decode cX8_nights 120 = .ok (.iaload, 1) := by decide +kernel
theorem dX8_nights_121 : decode cX8_nights 121 = .ok (.iastore, 1) := by decide +kernel
theorem dX8_nights_122 : decode cX8_nights 122 = .ok (.iload_n 2, 1) := by decide +kernel
theorem dX8_nights_123 : decode cX8_nights 123 = .ok (.iload 4, 2) := by decide +kernel
theorem dX8_nights_125 : decode cX8_nights 125 = .ok (.ifCond .eq 7, 3) := by decide +kernel
theorem dX8_nights_128 : decode cX8_nights 128 = .ok (.iconst 1, 1) := by decide +kernel
theorem dX8_nights_129 : decode cX8_nights 129 = .ok (.goto 4, 3) := by decide +kernel
theorem dX8_nights_132 : decode cX8_nights 132 = .ok (.iconst 0, 1) := by decide +kernel
theorem dX8_nights_133 : decode cX8_nights 133 = .ok (.iadd, 1) := by decide +kernel
theorem dX8_nights_134 : decode cX8_nights 134 = .ok (.istore_n 2, 1) := by decide +kernel
theorem dX8_nights_135 : decode cX8_nights 135 = .ok (.aload_n 0, 1) := by decide +kernel
theorem dX8_nights_136 : decode cX8_nights 136 = .ok (.getfield 7, 3) := by decide +kernel
theorem dX8_nights_139 : decode cX8_nights 139 = .ok (.iload_n 3, 1) := by decide +kernel
theorem dX8_nights_140 : decode cX8_nights 140 = .ok (.iconst 5, 1) := by decide +kernel
theorem dX8_nights_141 : decode cX8_nights 141 = .ok (.invokestatic 47, 3) := by decide +kernel
theorem dX8_nights_144 : decode cX8_nights 144 = .ok (.dup2, 1) := by decide +kernel
theorem dX8_nights_145 : decode cX8_nights 145 = .ok (.iaload, 1) := by decide +kernel
theorem dX8_nights_146 : decode cX8_nights 146 = .ok (.aload_n 0, 1) := by decide +kernel
theorem dX8_nights_147 : decode cX8_nights 147 = .ok (.getfield 7, 3) := by decide +kernel
theorem dX8_nights_150 : decode cX8_nights 150 = .ok (.iload_n 3, 1) := by decide +kernel
theorem dX8_nights_151 : decode cX8_nights 151 = .ok (.iconst 5, 1) := by decide +kernel
theorem dX8_nights_152 : decode cX8_nights 152 = .ok (.invokestatic 47, 3) := by decide +kernel
theorem dX8_nights_155 : decode cX8_nights 155 = .ok (.iaload, 1) := by decide +kernel
theorem dX8_nights_156 : decode cX8_nights 156 = .ok (.ifCond .le 25, 3) := by decide +kernel
theorem dX8_nights_159 : decode cX8_nights 159 = .ok (.aload_n 0, 1) := by decide +kernel
theorem dX8_nights_160 : decode cX8_nights 160 = .ok (.iload_n 3, 1) := by decide +kernel
theorem dX8_nights_161 : decode cX8_nights 161 = .ok (.iconst 3, 1) := by decide +kernel
theorem dX8_nights_162 : decode cX8_nights 162 = .ok (.invokevirtual 50, 3) := by decide +kernel
theorem dX8_nights_165 : decode cX8_nights 165 = .ok (.ifCond .ne 16, 3) := by decide +kernel
theorem dX8_nights_168 : decode cX8_nights 168 = .ok (.aload_n 0, 1) := by decide +kernel
theorem dX8_nights_169 : decode cX8_nights 169 = .ok (.iload_n 3, 1) := by decide +kernel
theorem dX8_nights_170 : decode cX8_nights 170 = .ok (.iconst 4, 1) := by decide +kernel
theorem dX8_nights_171 : decode cX8_nights 171 = .ok (.invokevirtual 50, 3) := by decide +kernel
theorem dX8_nights_174 : decode cX8_nights 174 = .ok (.ifCond .ne 7, 3) := by decide +kernel
theorem dX8_nights_177 : decode cX8_nights 177 = .ok (.iconst 1, 1) := by decide +kernel
theorem dX8_nights_178 : decode cX8_nights 178 = .ok (.goto 4, 3) := by decide +kernel
theorem dX8_nights_181 : decode cX8_nights 181 = .ok (.iconst 0, 1) := by decide +kernel
theorem dX8_nights_182 : decode cX8_nights 182 = .ok (.isub, 1) := by decide +kernel
theorem dX8_nights_183 : decode cX8_nights 183 = .ok (.iastore, 1) := by decide +kernel
theorem dX8_nights_184 : decode cX8_nights 184 = .ok (.iinc 3 1, 3) := by decide +kernel
theorem dX8_nights_187 : decode cX8_nights 187 = .ok (.goto (-132), 3) := by decide +kernel
theorem dX8_nights_190 : decode cX8_nights 190 = .ok (.aload_n 0, 1) := by decide +kernel
theorem dX8_nights_191 : decode cX8_nights 191 = .ok (.getfield 7, 3) := by decide +kernel
theorem dX8_nights_194 : decode cX8_nights 194 = .ok (.iconst 4, 1) := by decide +kernel
theorem dX8_nights_195 : decode cX8_nights 195 = .ok (.dup2, 1) := by decide +kernel
theorem dX8_nights_196 : decode cX8_nights 196 = .ok (.iaload, 1) := by decide +kernel
theorem dX8_nights_197 : decode cX8_nights 197 = .ok (.iconst 1, 1) := by decide +kernel
theorem dX8_nights_198 : decode cX8_nights 198 = .ok (.iadd, 1) := by decide +kernel
theorem dX8_nights_199 : decode cX8_nights 199 = .ok (.iastore, 1) := by decide +kernel
theorem dX8_nights_200 : decode cX8_nights 200 = .ok (.iload_n 2, 1) := by decide +kernel
theorem dX8_nights_201 : decode cX8_nights 201 = .ok (.ireturn, 1) := by decide +kernel
theorem dX8_does_0 : decode cX8_does 0 = .ok (.iload_n 1, 1) := by decide +kernel
theorem dX8_does_1 : decode cX8_does 1 = .ok (.tableswitch 126 99 113 #[86, 126, 126, 126, 104, 126, 126, 126, 126, 111, 126, 120, 95, 126, 75], 75) := by decide +kernel
theorem dX8_does_76 : decode cX8_does 76 = .ok (.aload_n 0, 1) := by decide +kernel
theorem dX8_does_77 : decode cX8_does 77 = .ok (.iload_n 2, 1) := by decide +kernel
theorem dX8_does_78 : decode cX8_does 78 = .ok (.iload_n 3, 1) := by decide +kernel
theorem dX8_does_79 : decode cX8_does 79 = .ok (.iload 4, 2) := by decide +kernel
theorem dX8_does_81 : decode cX8_does 81 = .ok (.iload 5, 2) := by decide +kernel
theorem dX8_does_83 : decode cX8_does 83 = .ok (.invokevirtual 134, 3) := by decide +kernel
theorem dX8_does_86 : decode cX8_does 86 = .ok (.ireturn, 1) := by decide +kernel
theorem dX8_does_87 : decode cX8_does 87 = .ok (.aload_n 0, 1) := by decide +kernel
theorem dX8_does_88 : decode cX8_does 88 = .ok (.iload_n 2, 1) := by decide +kernel
theorem dX8_does_89 : decode cX8_does 89 = .ok (.iload_n 3, 1) := by decide +kernel
theorem dX8_does_90 : decode cX8_does 90 = .ok (.iload 4, 2) := by decide +kernel
theorem dX8_does_92 : decode cX8_does 92 = .ok (.invokevirtual 137, 3) := by decide +kernel
theorem dX8_does_95 : decode cX8_does 95 = .ok (.ireturn, 1) := by decide +kernel
theorem dX8_does_96 : decode cX8_does 96 = .ok (.aload_n 0, 1) := by decide +kernel
theorem dX8_does_97 : decode cX8_does 97 = .ok (.iload_n 2, 1) := by decide +kernel
theorem dX8_does_98 : decode cX8_does 98 = .ok (.iload_n 3, 1) := by decide +kernel
theorem dX8_does_99 : decode cX8_does 99 = .ok (.iload 4, 2) := by decide +kernel
theorem dX8_does_101 : decode cX8_does 101 = .ok (.invokevirtual 141, 3) := by decide +kernel
theorem dX8_does_104 : decode cX8_does 104 = .ok (.ireturn, 1) := by decide +kernel
theorem dX8_does_105 : decode cX8_does 105 = .ok (.aload_n 0, 1) := by decide +kernel
theorem dX8_does_106 : decode cX8_does 106 = .ok (.iload_n 2, 1) := by decide +kernel
theorem dX8_does_107 : decode cX8_does 107 = .ok (.iload_n 3, 1) := by decide +kernel
theorem dX8_does_108 : decode cX8_does 108 = .ok (.invokevirtual 144, 3) := by decide +kernel
theorem dX8_does_111 : decode cX8_does 111 = .ok (.ireturn, 1) := by decide +kernel
theorem dX8_does_112 : decode cX8_does 112 = .ok (.aload_n 0, 1) := by decide +kernel
theorem dX8_does_113 : decode cX8_does 113 = .ok (.iload_n 2, 1) := by decide +kernel
theorem dX8_does_114 : decode cX8_does 114 = .ok (.iload_n 3, 1) := by decide +kernel
theorem dX8_does_115 : decode cX8_does 115 = .ok (.iload 4, 2) := by decide +kernel
theorem dX8_does_117 : decode cX8_does 117 = .ok (.invokevirtual 147, 3) := by decide +kernel
theorem dX8_does_120 : decode cX8_does 120 = .ok (.ireturn, 1) := by decide +kernel
theorem dX8_does_121 : decode cX8_does 121 = .ok (.aload_n 0, 1) := by decide +kernel
theorem dX8_does_122 : decode cX8_does 122 = .ok (.iload_n 2, 1) := by decide +kernel
theorem dX8_does_123 : decode cX8_does 123 = .ok (.invokevirtual 150, 3) := by decide +kernel
theorem dX8_does_126 : decode cX8_does 126 = .ok (.ireturn, 1) := by decide +kernel
theorem dX8_does_127 : decode cX8_does 127 = .ok (.aload_n 0, 1) := by decide +kernel
theorem dX8_does_128 : decode cX8_does 128 = .ok (.iload_n 2, 1) := by decide +kernel
theorem dX8_does_129 : decode cX8_does 129 = .ok (.invokevirtual 153, 3) := by decide +kernel
theorem dX8_does_132 : decode cX8_does 132 = .ok (.ireturn, 1) := by decide +kernel
theorem dX8_tries_0 : decode cX8_tries 0 = .ok (.aload_n 0, 1) := by decide +kernel
theorem dX8_tries_1 : decode cX8_tries 1 = .ok (.invokevirtual 156, 3) := by decide +kernel
theorem dX8_tries_4 : decode cX8_tries 4 = .ok (.aload_n 0, 1) := by decide +kernel
theorem dX8_tries_5 : decode cX8_tries 5 = .ok (.iload_n 1, 1) := by decide +kernel
theorem dX8_tries_6 : decode cX8_tries 6 = .ok (.iload_n 2, 1) := by decide +kernel
theorem dX8_tries_7 : decode cX8_tries 7 = .ok (.iload_n 3, 1) := by decide +kernel
theorem dX8_tries_8 : decode cX8_tries 8 = .ok (.iload 4, 2) := by decide +kernel
theorem dX8_tries_10 : decode cX8_tries 10 = .ok (.iload 5, 2) := by decide +kernel
theorem dX8_tries_12 : decode cX8_tries 12 = .ok (.invokevirtual 159, 3) := by decide +kernel
theorem dX8_tries_15 : decode cX8_tries 15 = .ok (.istore 6, 2) := by decide +kernel
theorem dX8_tries_17 : decode cX8_tries 17 = .ok (.iload 6, 2) := by decide +kernel
theorem dX8_tries_19 : decode cX8_tries 19 = .ok (.ifCond .lt 7, 3) := by decide +kernel
theorem dX8_tries_22 : decode cX8_tries 22 = .ok (.aload_n 0, 1) := by decide +kernel
theorem dX8_tries_23 : decode cX8_tries 23 = .ok (.invokevirtual 163, 3) := by decide +kernel
theorem dX8_tries_26 : decode cX8_tries 26 = .ok (.iload 6, 2) := by decide +kernel
theorem dX8_tries_28 : decode cX8_tries 28 = .ok (.ireturn, 1) := by decide +kernel
theorem dX8_lays_0 : decode cX8_lays 0 = .ok (.aload_n 0, 1) := by decide +kernel
theorem dX8_lays_1 : decode cX8_lays 1 = .ok (.invokevirtual 156, 3) := by decide +kernel
theorem dX8_lays_4 : decode cX8_lays 4 = .ok (.aload_n 0, 1) := by decide +kernel
theorem dX8_lays_5 : decode cX8_lays 5 = .ok (.invokevirtual 163, 3) := by decide +kernel
theorem dX8_lays_8 : decode cX8_lays 8 = .ok (.aload_n 0, 1) := by decide +kernel
theorem dX8_lays_9 : decode cX8_lays 9 = .ok (.getfield 7, 3) := by decide +kernel
theorem dX8_lays_12 : decode cX8_lays 12 = .ok (.iload_n 1, 1) := by decide +kernel
theorem dX8_lays_13 : decode cX8_lays 13 = .ok (.iaload, 1) := by decide +kernel
theorem dX8_lays_14 : decode cX8_lays 14 = .ok (.istore_n 3, 1) := by decide +kernel
theorem dX8_lays_15 : decode cX8_lays 15 = .ok (.aload_n 0, 1) := by decide +kernel
theorem dX8_lays_16 : decode cX8_lays 16 = .ok (.getfield 7, 3) := by decide +kernel
theorem dX8_lays_19 : decode cX8_lays 19 = .ok (.iload_n 1, 1) := by decide +kernel
theorem dX8_lays_20 : decode cX8_lays 20 = .ok (.iload_n 2, 1) := by decide +kernel
theorem dX8_lays_21 : decode cX8_lays 21 = .ok (.iastore, 1) := by decide +kernel
theorem dX8_lays_22 : decode cX8_lays 22 = .ok (.iload_n 3, 1) := by decide +kernel
theorem dX8_lays_23 : decode cX8_lays 23 = .ok (.ireturn, 1) := by decide +kernel
theorem dX8_set_0 : decode cX8_set 0 = .ok (.iload_n 1, 1) := by decide +kernel
theorem dX8_set_1 : decode cX8_set 1 = .ok (.ifCond .ne 13, 3) := by decide +kernel
theorem dX8_set_4 : decode cX8_set 4 = .ok (.iload_n 2, 1) := by decide +kernel
theorem dX8_set_5 : decode cX8_set 5 = .ok (.iconst 0, 1) := by decide +kernel
theorem dX8_set_6 : decode cX8_set 6 = .ok (.bipush 9, 2) := by decide +kernel
theorem dX8_set_8 : decode cX8_set 8 = .ok (.invokestatic 39, 3) := by decide +kernel
theorem dX8_set_11 : decode cX8_set 11 = .ok (.goto 53, 3) := by decide +kernel
theorem dX8_set_14 : decode cX8_set 14 = .ok (.iload_n 1, 1) := by decide +kernel
theorem dX8_set_15 : decode cX8_set 15 = .ok (.iconst 1, 1) := by decide +kernel
theorem dX8_set_16 : decode cX8_set 16 = .ok (.if_icmp .ne 13, 3) := by decide +kernel
theorem dX8_set_19 : decode cX8_set 19 = .ok (.iload_n 2, 1) := by decide +kernel
theorem dX8_set_20 : decode cX8_set 20 = .ok (.iconst 1, 1) := by decide +kernel
theorem dX8_set_21 : decode cX8_set 21 = .ok (.bipush 99, 2) := by decide +kernel
theorem dX8_set_23 : decode cX8_set 23 = .ok (.invokestatic 39, 3) := by decide +kernel
theorem dX8_set_26 : decode cX8_set 26 = .ok (.goto 38, 3) := by decide +kernel
theorem dX8_set_29 : decode cX8_set 29 = .ok (.iload_n 1, 1) := by decide +kernel
theorem dX8_set_30 : decode cX8_set 30 = .ok (.iconst 2, 1) := by decide +kernel
theorem dX8_set_31 : decode cX8_set 31 = .ok (.if_icmp .ne 13, 3) := by decide +kernel
theorem dX8_set_34 : decode cX8_set 34 = .ok (.iload_n 2, 1) := by decide +kernel
theorem dX8_set_35 : decode cX8_set 35 = .ok (.bipush (-20), 2) := by decide +kernel
theorem dX8_set_37 : decode cX8_set 37 = .ok (.iconst 0, 1) := by decide +kernel
theorem dX8_set_38 : decode cX8_set 38 = .ok (.invokestatic 39, 3) := by decide +kernel
theorem dX8_set_41 : decode cX8_set 41 = .ok (.goto 23, 3) := by decide +kernel
theorem dX8_set_44 : decode cX8_set 44 = .ok (.iload_n 1, 1) := by decide +kernel
theorem dX8_set_45 : decode cX8_set 45 = .ok (.iconst 3, 1) := by decide +kernel
theorem dX8_set_46 : decode cX8_set 46 = .ok (.if_icmp .ne 17, 3) := by decide +kernel
theorem dX8_set_49 : decode cX8_set 49 = .ok (.iload_n 2, 1) := by decide +kernel
theorem dX8_set_50 : decode cX8_set 50 = .ok (.iconst 0, 1) := by decide +kernel
theorem dX8_set_51 : decode cX8_set 51 = .ok (.bipush 30, 2) := by decide +kernel
theorem dX8_set_53 : decode cX8_set 53 = .ok (.invokestatic 39, 3) := by decide +kernel
theorem dX8_set_56 : decode cX8_set 56 = .ok (.ifCond .eq 7, 3) := by decide +kernel
theorem dX8_set_59 : decode cX8_set 59 = .ok (.iconst 1, 1) := by decide +kernel
theorem dX8_set_60 : decode cX8_set 60 = .ok (.goto 4, 3) := by decide +kernel
theorem dX8_set_63 : decode cX8_set 63 = .ok (.iconst 0, 1) := by decide +kernel
theorem dX8_set_64 : decode cX8_set 64 = .ok (.istore_n 3, 1) := by decide +kernel
theorem dX8_set_65 : decode cX8_set 65 = .ok (.iload_n 3, 1) := by decide +kernel
theorem dX8_set_66 : decode cX8_set 66 = .ok (.ifCond .eq 15, 3) := by decide +kernel
theorem dX8_set_69 : decode cX8_set 69 = .ok (.aload_n 0, 1) := by decide +kernel
theorem dX8_set_70 : decode cX8_set 70 = .ok (.iload_n 1, 1) := by decide +kernel
theorem dX8_set_71 : decode cX8_set 71 = .ok (.iload_n 2, 1) := by decide +kernel
theorem dX8_set_72 : decode cX8_set 72 = .ok (.invokevirtual 166, 3) := by decide +kernel
theorem dX8_set_75 : decode cX8_set 75 = .ok (.bipush 100, 2) := by decide +kernel
theorem dX8_set_77 : decode cX8_set 77 = .ok (.iadd, 1) := by decide +kernel
theorem dX8_set_78 : decode cX8_set 78 = .ok (.goto 5, 3) := by decide +kernel
theorem dX8_set_81 : decode cX8_set 81 = .ok (.bipush (-2), 2) := by decide +kernel
theorem dX8_set_83 : decode cX8_set 83 = .ok (.ireturn, 1) := by decide +kernel
theorem dX8_quarry_0 : decode cX8_quarry 0 = .ok (.aload_n 0, 1) := by decide +kernel
theorem dX8_quarry_1 : decode cX8_quarry 1 = .ok (.bipush 113, 2) := by decide +kernel
theorem dX8_quarry_3 : decode cX8_quarry 3 = .ok (.iload_n 1, 1) := by decide +kernel
theorem dX8_quarry_4 : decode cX8_quarry 4 = .ok (.iload_n 2, 1) := by decide +kernel
theorem dX8_quarry_5 : decode cX8_quarry 5 = .ok (.iload_n 3, 1) := by decide +kernel
theorem dX8_quarry_6 : decode cX8_quarry 6 = .ok (.iload 4, 2) := by decide +kernel
theorem dX8_quarry_8 : decode cX8_quarry 8 = .ok (.invokevirtual 169, 3) := by decide +kernel
theorem dX8_quarry_11 : decode cX8_quarry 11 = .ok (.ireturn, 1) := by decide +kernel
theorem dX8_cut_0 : decode cX8_cut 0 = .ok (.aload_n 0, 1) := by decide +kernel
theorem dX8_cut_1 : decode cX8_cut 1 = .ok (.bipush 99, 2) := by decide +kernel
theorem dX8_cut_3 : decode cX8_cut 3 = .ok (.iload_n 1, 1) := by decide +kernel
theorem dX8_cut_4 : decode cX8_cut 4 = .ok (.iload_n 2, 1) := by decide +kernel
theorem dX8_cut_5 : decode cX8_cut 5 = .ok (.iload_n 3, 1) := by decide +kernel
theorem dX8_cut_6 : decode cX8_cut 6 = .ok (.iconst 0, 1) := by decide +kernel
theorem dX8_cut_7 : decode cX8_cut 7 = .ok (.invokevirtual 169, 3) := by decide +kernel
theorem dX8_cut_10 : decode cX8_cut 10 = .ok (.ireturn, 1) := by decide +kernel
theorem dX8_shelter_0 : decode cX8_shelter 0 = .ok (.aload_n 0, 1) := by decide +kernel
theorem dX8_shelter_1 : decode cX8_shelter 1 = .ok (.iload_n 1, 1) := by decide +kernel
theorem dX8_shelter_2 : decode cX8_shelter 2 = .ok (.invokevirtual 103, 3) := by decide +kernel
theorem dX8_shelter_5 : decode cX8_shelter 5 = .ok (.ifCond .ne 5, 3) := by decide +kernel
theorem dX8_shelter_8 : decode cX8_shelter 8 = .ok (.iconst (-1), 1) := by decide +kernel
theorem dX8_shelter_9 : decode cX8_shelter 9 = .ok (.ireturn, 1) := by decide +kernel
theorem dX8_shelter_10 : decode cX8_shelter 10 = .ok (.aload_n 0, 1) := by decide +kernel
theorem dX8_shelter_11 : decode cX8_shelter 11 = .ok (.iload_n 1, 1) := by decide +kernel
theorem dX8_shelter_12 : decode cX8_shelter 12 = .ok (.invokevirtual 100, 3) := by decide +kernel
theorem dX8_shelter_15 : decode cX8_shelter 15 = .ok (.ifCond .ne 6, 3) := by decide +kernel
theorem dX8_shelter_18 : decode cX8_shelter 18 = .ok (.bipush (-5), 2) := by decide +kernel
theorem dX8_shelter_20 : decode cX8_shelter 20 = .ok (.ireturn, 1) := by decide +kernel
theorem dX8_shelter_21 : decode cX8_shelter 21 = .ok (.aload_n 0, 1) := by decide +kernel
theorem dX8_shelter_22 : decode cX8_shelter 22 = .ok (.iload_n 1, 1) := by decide +kernel
theorem dX8_shelter_23 : decode cX8_shelter 23 = .ok (.iconst 1, 1) := by decide +kernel
theorem dX8_shelter_24 : decode cX8_shelter 24 = .ok (.invokevirtual 50, 3) := by decide +kernel
theorem dX8_shelter_27 : decode cX8_shelter 27 = .ok (.istore_n 2, 1) := by decide +kernel
theorem dX8_shelter_28 : decode cX8_shelter 28 = .ok (.iload_n 2, 1) := by decide +kernel
theorem dX8_shelter_29 : decode cX8_shelter 29 = .ok (.ifCond .ne 14, 3) := by decide +kernel
theorem dX8_shelter_32 : decode cX8_shelter 32 = .ok (.aload_n 0, 1) := by decide +kernel
theorem dX8_shelter_33 : decode cX8_shelter 33 = .ok (.invokevirtual 112, 3) := by decide +kernel
theorem dX8_shelter_36 : decode cX8_shelter 36 = .ok (.iconst 4, 1) := by decide +kernel
theorem dX8_shelter_37 : decode cX8_shelter 37 = .ok (.if_icmp .ne 6, 3) := by decide +kernel
theorem dX8_shelter_40 : decode cX8_shelter 40 = .ok (.bipush (-4), 2) := by decide +kernel
theorem dX8_shelter_42 : decode cX8_shelter 42 = .ok (.ireturn, 1) := by decide +kernel
theorem dX8_shelter_43 : decode cX8_shelter 43 = .ok (.aload_n 0, 1) := by decide +kernel
theorem dX8_shelter_44 : decode cX8_shelter 44 = .ok (.iload_n 1, 1) := by decide +kernel
theorem dX8_shelter_45 : decode cX8_shelter 45 = .ok (.iconst 4, 1) := by decide +kernel
theorem dX8_shelter_46 : decode cX8_shelter 46 = .ok (.invokestatic 47, 3) := by decide +kernel
theorem dX8_shelter_49 : decode cX8_shelter 49 = .ok (.iload_n 2, 1) := by decide +kernel
theorem dX8_shelter_50 : decode cX8_shelter 50 = .ok (.ifCond .eq 7, 3) := by decide +kernel
theorem dX8_shelter_53 : decode cX8_shelter 53 = .ok (.iconst 0, 1) := by decide +kernel
theorem dX8_shelter_54 : decode cX8_shelter 54 = .ok (.goto 4, 3) := by decide +kernel
theorem dX8_shelter_57 : decode cX8_shelter 57 = .ok (.iconst 1, 1) := by decide +kernel
theorem dX8_shelter_58 : decode cX8_shelter 58 = .ok (.invokevirtual 166, 3) := by decide +kernel
theorem dX8_shelter_61 : decode cX8_shelter 61 = .ok (.istore_n 3, 1) := by decide +kernel
theorem dX8_shelter_62 : decode cX8_shelter 62 = .ok (.iload_n 2, 1) := by decide +kernel
theorem dX8_shelter_63 : decode cX8_shelter 63 = .ok (.ifCond .eq 7, 3) := by decide +kernel
theorem dX8_shelter_66 : decode cX8_shelter 66 = .ok (.iconst 0, 1) := by decide +kernel
theorem dX8_shelter_67 : decode cX8_shelter 67 = .ok (.goto 4, 3) := by decide +kernel
theorem dX8_shelter_70 : decode cX8_shelter 70 = .ok (.iconst 1, 1) := by decide +kernel
theorem dX8_shelter_71 : decode cX8_shelter 71 = .ok (.ireturn, 1) := by decide +kernel
theorem dX8_order_0 : decode cX8_order 0 = .ok (.aload_n 0, 1) := by decide +kernel
theorem dX8_order_1 : decode cX8_order 1 = .ok (.bipush 111, 2) := by decide +kernel
theorem dX8_order_3 : decode cX8_order 3 = .ok (.iload_n 1, 1) := by decide +kernel
theorem dX8_order_4 : decode cX8_order 4 = .ok (.iload_n 2, 1) := by decide +kernel
theorem dX8_order_5 : decode cX8_order 5 = .ok (.iload_n 3, 1) := by decide +kernel
theorem dX8_order_6 : decode cX8_order 6 = .ok (.iconst 0, 1) := by decide +kernel
theorem dX8_order_7 : decode cX8_order 7 = .ok (.invokevirtual 169, 3) := by decide +kernel
theorem dX8_order_10 : decode cX8_order 10 = .ok (.ireturn, 1) := by decide +kernel
theorem dX8_give_0 : decode cX8_give 0 = .ok (.aload_n 0, 1) := by decide +kernel
theorem dX8_give_1 : decode cX8_give 1 = .ok (.bipush 103, 2) := by decide +kernel
theorem dX8_give_3 : decode cX8_give 3 = .ok (.iload_n 1, 1) := by decide +kernel
theorem dX8_give_4 : decode cX8_give 4 = .ok (.iload_n 2, 1) := by decide +kernel
theorem dX8_give_5 : decode cX8_give 5 = .ok (.iconst 0, 1) := by decide +kernel
theorem dX8_give_6 : decode cX8_give 6 = .ok (.iconst 0, 1) := by decide +kernel
theorem dX8_give_7 : decode cX8_give 7 = .ok (.invokevirtual 169, 3) := by decide +kernel
theorem dX8_give_10 : decode cX8_give 10 = .ok (.ireturn, 1) := by decide +kernel
theorem dX8_takeBack_0 : decode cX8_takeBack 0 = .ok (.aload_n 0, 1) := by decide +kernel
theorem dX8_takeBack_1 : decode cX8_takeBack 1 = .ok (.iload_n 1, 1) := by decide +kernel
theorem dX8_takeBack_2 : decode cX8_takeBack 2 = .ok (.invokevirtual 116, 3) := by decide +kernel
theorem dX8_takeBack_5 : decode cX8_takeBack 5 = .ok (.ifCond .ne 5, 3) := by decide +kernel
theorem dX8_takeBack_8 : decode cX8_takeBack 8 = .ok (.iconst (-1), 1) := by decide +kernel
theorem dX8_takeBack_9 : decode cX8_takeBack 9 = .ok (.ireturn, 1) := by decide +kernel
theorem dX8_takeBack_10 : decode cX8_takeBack 10 = .ok (.aload_n 0, 1) := by decide +kernel
theorem dX8_takeBack_11 : decode cX8_takeBack 11 = .ok (.getfield 7, 3) := by decide +kernel
theorem dX8_takeBack_14 : decode cX8_takeBack 14 = .ok (.iload_n 1, 1) := by decide +kernel
theorem dX8_takeBack_15 : decode cX8_takeBack 15 = .ok (.iconst 3, 1) := by decide +kernel
theorem dX8_takeBack_16 : decode cX8_takeBack 16 = .ok (.invokestatic 66, 3) := by decide +kernel
theorem dX8_takeBack_19 : decode cX8_takeBack 19 = .ok (.iaload, 1) := by decide +kernel
theorem dX8_takeBack_20 : decode cX8_takeBack 20 = .ok (.iconst 1, 1) := by decide +kernel
theorem dX8_takeBack_21 : decode cX8_takeBack 21 = .ok (.if_icmp .eq 6, 3) := by decide +kernel
theorem dX8_takeBack_24 : decode cX8_takeBack 24 = .ok (.bipush (-5), 2) := by decide +kernel
theorem dX8_takeBack_26 : decode cX8_takeBack 26 = .ok (.ireturn, 1) := by decide +kernel
theorem dX8_takeBack_27 : decode cX8_takeBack 27 = .ok (.aload_n 0, 1) := by decide +kernel
theorem dX8_takeBack_28 : decode cX8_takeBack 28 = .ok (.iload_n 1, 1) := by decide +kernel
theorem dX8_takeBack_29 : decode cX8_takeBack 29 = .ok (.iconst 3, 1) := by decide +kernel
theorem dX8_takeBack_30 : decode cX8_takeBack 30 = .ok (.invokestatic 66, 3) := by decide +kernel
theorem dX8_takeBack_33 : decode cX8_takeBack 33 = .ok (.iconst 0, 1) := by decide +kernel
theorem dX8_takeBack_34 : decode cX8_takeBack 34 = .ok (.invokevirtual 166, 3) := by decide +kernel
theorem dX8_takeBack_37 : decode cX8_takeBack 37 = .ok (.istore_n 2, 1) := by decide +kernel
theorem dX8_takeBack_38 : decode cX8_takeBack 38 = .ok (.aload_n 0, 1) := by decide +kernel
theorem dX8_takeBack_39 : decode cX8_takeBack 39 = .ok (.getfield 7, 3) := by decide +kernel
theorem dX8_takeBack_42 : decode cX8_takeBack 42 = .ok (.iload_n 1, 1) := by decide +kernel
theorem dX8_takeBack_43 : decode cX8_takeBack 43 = .ok (.iconst 4, 1) := by decide +kernel
theorem dX8_takeBack_44 : decode cX8_takeBack 44 = .ok (.invokestatic 66, 3) := by decide +kernel
theorem dX8_takeBack_47 : decode cX8_takeBack 47 = .ok (.iaload, 1) := by decide +kernel
theorem dX8_takeBack_48 : decode cX8_takeBack 48 = .ok (.istore_n 3, 1) := by decide +kernel
theorem dX8_takeBack_49 : decode cX8_takeBack 49 = .ok (.aload_n 0, 1) := by decide +kernel
theorem dX8_takeBack_50 : decode cX8_takeBack 50 = .ok (.getfield 7, 3) := by decide +kernel
theorem dX8_takeBack_53 : decode cX8_takeBack 53 = .ok (.iload_n 1, 1) := by decide +kernel
theorem dX8_takeBack_54 : decode cX8_takeBack 54 = .ok (.iconst 4, 1) := by decide +kernel
theorem dX8_takeBack_55 : decode cX8_takeBack 55 = .ok (.invokestatic 66, 3) := by decide +kernel
theorem dX8_takeBack_58 : decode cX8_takeBack 58 = .ok (.bipush (-6), 2) := by decide +kernel
theorem dX8_takeBack_60 : decode cX8_takeBack 60 = .ok (.iastore, 1) := by decide +kernel
theorem dX8_takeBack_61 : decode cX8_takeBack 61 = .ok (.aload_n 0, 1) := by decide +kernel
theorem dX8_takeBack_62 : decode cX8_takeBack 62 = .ok (.getfield 7, 3) := by decide +kernel
theorem dX8_takeBack_65 : decode cX8_takeBack 65 = .ok (.iload_n 3, 1) := by decide +kernel
theorem dX8_takeBack_66 : decode cX8_takeBack 66 = .ok (.bipush 7, 2) := by decide +kernel
theorem dX8_takeBack_68 : decode cX8_takeBack 68 = .ok (.invokestatic 47, 3) := by decide +kernel
theorem dX8_takeBack_71 : decode cX8_takeBack 71 = .ok (.bipush (-6), 2) := by decide +kernel
theorem dX8_takeBack_73 : decode cX8_takeBack 73 = .ok (.iastore, 1) := by decide +kernel
theorem dX8_takeBack_74 : decode cX8_takeBack 74 = .ok (.iload_n 3, 1) := by decide +kernel
theorem dX8_takeBack_75 : decode cX8_takeBack 75 = .ok (.ireturn, 1) := by decide +kernel
theorem dX8_limits_0 : decode cX8_limits 0 = .ok (.iload_n 1, 1) := by decide +kernel
theorem dX8_limits_1 : decode cX8_limits 1 = .ok (.invokestatic 122, 3) := by decide +kernel
theorem dX8_limits_4 : decode cX8_limits 4 = .ok (.ifCond .ne 5, 3) := by decide +kernel
theorem dX8_limits_7 : decode cX8_limits 7 = .ok (.iconst (-1), 1) := by decide +kernel
theorem dX8_limits_8 : decode cX8_limits 8 = .ok (.ireturn, 1) := by decide +kernel
theorem dX8_limits_9 : decode cX8_limits 9 = .ok (.iload_n 2, 1) := by decide +kernel
theorem dX8_limits_10 : decode cX8_limits 10 = .ok (.bipush 100, 2) := by decide +kernel
theorem dX8_limits_12 : decode cX8_limits 12 = .ok (.sipush 30000, 3) := by decide +kernel
theorem dX8_limits_15 : decode cX8_limits 15 = .ok (.invokestatic 39, 3) := by decide +kernel
theorem dX8_limits_18 : decode cX8_limits 18 = .ok (.ifCond .eq 28, 3) := by decide +kernel
theorem dX8_limits_21 : decode cX8_limits 21 = .ok (.iload_n 3, 1) := by decide +kernel
theorem dX8_limits_22 : decode cX8_limits 22 = .ok (.bipush 100, 2) := by decide +kernel
theorem dX8_limits_24 : decode cX8_limits 24 = .ok (.sipush 30000, 3) := by decide +kernel
theorem dX8_limits_27 : decode cX8_limits 27 = .ok (.invokestatic 39, 3) := by decide +kernel
theorem dX8_limits_30 : decode cX8_limits 30 = .ok (.ifCond .eq 16, 3) := by decide +kernel
theorem dX8_limits_33 : decode cX8_limits 33 = .ok (.iload 4, 2) := by decide +kernel
theorem dX8_limits_35 : decode cX8_limits 35 = .ok (.bipush 100, 2) := by decide +kernel
theorem dX8_limits_37 : decode cX8_limits 37 = .ok (.sipush 30000, 3) := by decide +kernel
theorem dX8_limits_40 : decode cX8_limits 40 = .ok (.invokestatic 39, 3) := by decide +kernel
theorem dX8_limits_43 : decode cX8_limits 43 = .ok (.ifCond .ne 6, 3) := by decide +kernel
theorem dX8_limits_46 : decode cX8_limits 46 = .ok (.bipush (-2), 2) := by decide +kernel
theorem dX8_limits_48 : decode cX8_limits 48 = .ok (.ireturn, 1) := by decide +kernel
theorem dX8_limits_49 : decode cX8_limits 49 = .ok (.aload_n 0, 1) := by decide +kernel
theorem dX8_limits_50 : decode cX8_limits 50 = .ok (.iload_n 1, 1) := by decide +kernel
theorem dX8_limits_51 : decode cX8_limits 51 = .ok (.iconst 0, 1) := by decide +kernel
theorem dX8_limits_52 : decode cX8_limits 52 = .ok (.invokestatic 35, 3) := by decide +kernel
theorem dX8_limits_55 : decode cX8_limits 55 = .ok (.iload_n 2, 1) := by decide +kernel
theorem dX8_limits_56 : decode cX8_limits 56 = .ok (.invokevirtual 166, 3) := by decide +kernel
theorem dX8_limits_59 : decode cX8_limits 59 = .ok (.istore 5, 2) := by decide +kernel
theorem dX8_limits_61 : decode cX8_limits 61 = .ok (.aload_n 0, 1) := by decide +kernel
theorem dX8_limits_62 : decode cX8_limits 62 = .ok (.getfield 7, 3) := by decide +kernel
theorem dX8_limits_65 : decode cX8_limits 65 = .ok (.iload_n 1, 1) := by decide +kernel
theorem dX8_limits_66 : decode cX8_limits 66 = .ok (.iconst 1, 1) := by decide +kernel
theorem dX8_limits_67 : decode cX8_limits 67 = .ok (.invokestatic 35, 3) := by decide +kernel
theorem dX8_limits_70 : decode cX8_limits 70 = .ok (.iload_n 3, 1) := by decide +kernel
theorem dX8_limits_71 : decode cX8_limits 71 = .ok (.iastore, 1) := by decide +kernel
theorem dX8_limits_72 : decode cX8_limits 72 = .ok (.aload_n 0, 1) := by decide +kernel
theorem dX8_limits_73 : decode cX8_limits 73 = .ok (.getfield 7, 3) := by decide +kernel
theorem dX8_limits_76 : decode cX8_limits 76 = .ok (.iload_n 1, 1) := by decide +kernel
theorem dX8_limits_77 : decode cX8_limits 77 = .ok (.iconst 2, 1) := by decide +kernel
theorem dX8_limits_78 : decode cX8_limits 78 = .ok (.invokestatic 35, 3) := by decide +kernel
theorem dX8_limits_81 : decode cX8_limits 81 = .ok (.iload 4, 2) := by decide +kernel
theorem dX8_limits_83 : decode cX8_limits 83 = .ok (.iastore, 1) := by decide +kernel
theorem dX8_limits_84 : decode cX8_limits 84 = .ok (.iconst 1, 1) := by decide +kernel
theorem dX8_limits_85 : decode cX8_limits 85 = .ok (.ireturn, 1) := by decide +kernel
theorem dX8_load_0 : decode cX8_load 0 = .ok (.aload_n 0, 1) := by decide +kernel
theorem dX8_load_1 : decode cX8_load 1 = .ok (.bipush 108, 2) := by decide +kernel
theorem dX8_load_3 : decode cX8_load 3 = .ok (.iload_n 1, 1) := by decide +kernel
theorem dX8_load_4 : decode cX8_load 4 = .ok (.iload_n 2, 1) := by decide +kernel
theorem dX8_load_5 : decode cX8_load 5 = .ok (.iload_n 3, 1) := by decide +kernel
theorem dX8_load_6 : decode cX8_load 6 = .ok (.iconst 0, 1) := by decide +kernel
theorem dX8_load_7 : decode cX8_load 7 = .ok (.invokevirtual 169, 3) := by decide +kernel
theorem dX8_load_10 : decode cX8_load 10 = .ok (.ireturn, 1) := by decide +kernel
theorem dX8_unload_0 : decode cX8_unload 0 = .ok (.aload_n 0, 1) := by decide +kernel
theorem dX8_unload_1 : decode cX8_unload 1 = .ok (.iload_n 1, 1) := by decide +kernel
theorem dX8_unload_2 : decode cX8_unload 2 = .ok (.invokevirtual 103, 3) := by decide +kernel
theorem dX8_unload_5 : decode cX8_unload 5 = .ok (.ifCond .ne 5, 3) := by decide +kernel
theorem dX8_unload_8 : decode cX8_unload 8 = .ok (.iconst (-1), 1) := by decide +kernel
theorem dX8_unload_9 : decode cX8_unload 9 = .ok (.ireturn, 1) := by decide +kernel
theorem dX8_unload_10 : decode cX8_unload 10 = .ok (.aload_n 0, 1) := by decide +kernel
theorem dX8_unload_11 : decode cX8_unload 11 = .ok (.iload_n 1, 1) := by decide +kernel
theorem dX8_unload_12 : decode cX8_unload 12 = .ok (.iconst 2, 1) := by decide +kernel
theorem dX8_unload_13 : decode cX8_unload 13 = .ok (.invokevirtual 50, 3) := by decide +kernel
theorem dX8_unload_16 : decode cX8_unload 16 = .ok (.ifCond .ne 6, 3) := by decide +kernel
theorem dX8_unload_19 : decode cX8_unload 19 = .ok (.bipush (-5), 2) := by decide +kernel
theorem dX8_unload_21 : decode cX8_unload 21 = .ok (.ireturn, 1) := by decide +kernel
theorem dX8_unload_22 : decode cX8_unload 22 = .ok (.aload_n 0, 1) := by decide +kernel
theorem dX8_unload_23 : decode cX8_unload 23 = .ok (.iload_n 1, 1) := by decide +kernel
theorem dX8_unload_24 : decode cX8_unload 24 = .ok (.bipush 8, 2) := by decide +kernel
theorem dX8_unload_26 : decode cX8_unload 26 = .ok (.invokestatic 47, 3) := by decide +kernel
theorem dX8_unload_29 : decode cX8_unload 29 = .ok (.bipush (-6), 2) := by decide +kernel
theorem dX8_unload_31 : decode cX8_unload 31 = .ok (.invokevirtual 166, 3) := by decide +kernel
theorem dX8_unload_34 : decode cX8_unload 34 = .ok (.istore_n 2, 1) := by decide +kernel
theorem dX8_unload_35 : decode cX8_unload 35 = .ok (.aload_n 0, 1) := by decide +kernel
theorem dX8_unload_36 : decode cX8_unload 36 = .ok (.getfield 7, 3) := by decide +kernel
theorem dX8_unload_39 : decode cX8_unload 39 = .ok (.iload_n 1, 1) := by decide +kernel
theorem dX8_unload_40 : decode cX8_unload 40 = .ok (.iconst 4, 1) := by decide +kernel
theorem dX8_unload_41 : decode cX8_unload 41 = .ok (.invokestatic 47, 3) := by decide +kernel
theorem dX8_unload_44 : decode cX8_unload 44 = .ok (.iconst 0, 1) := by decide +kernel
theorem dX8_unload_45 : decode cX8_unload 45 = .ok (.iastore, 1) := by decide +kernel
theorem dX8_unload_46 : decode cX8_unload 46 = .ok (.aload_n 0, 1) := by decide +kernel
theorem dX8_unload_47 : decode cX8_unload 47 = .ok (.iload_n 2, 1) := by decide +kernel
theorem dX8_unload_48 : decode cX8_unload 48 = .ok (.iconst 5, 1) := by decide +kernel
theorem dX8_unload_49 : decode cX8_unload 49 = .ok (.idiv, 1) := by decide +kernel
theorem dX8_unload_50 : decode cX8_unload 50 = .ok (.invokevirtual 90, 3) := by decide +kernel
theorem dX8_unload_53 : decode cX8_unload 53 = .ok (.ireturn, 1) := by decide +kernel
theorem dX8_leave_0 : decode cX8_leave 0 = .ok (.aload_n 0, 1) := by decide +kernel
theorem dX8_leave_1 : decode cX8_leave 1 = .ok (.bipush 100, 2) := by decide +kernel
theorem dX8_leave_3 : decode cX8_leave 3 = .ok (.iload_n 1, 1) := by decide +kernel
theorem dX8_leave_4 : decode cX8_leave 4 = .ok (.iconst 0, 1) := by decide +kernel
theorem dX8_leave_5 : decode cX8_leave 5 = .ok (.iconst 0, 1) := by decide +kernel
theorem dX8_leave_6 : decode cX8_leave 6 = .ok (.iconst 0, 1) := by decide +kernel
theorem dX8_leave_7 : decode cX8_leave 7 = .ok (.invokevirtual 169, 3) := by decide +kernel
theorem dX8_leave_10 : decode cX8_leave 10 = .ok (.ireturn, 1) := by decide +kernel
theorem dX8_night_0 : decode cX8_night 0 = .ok (.aload_n 0, 1) := by decide +kernel
theorem dX8_night_1 : decode cX8_night 1 = .ok (.bipush 110, 2) := by decide +kernel
theorem dX8_night_3 : decode cX8_night 3 = .ok (.iload_n 1, 1) := by decide +kernel
theorem dX8_night_4 : decode cX8_night 4 = .ok (.iconst 0, 1) := by decide +kernel
theorem dX8_night_5 : decode cX8_night 5 = .ok (.iconst 0, 1) := by decide +kernel
theorem dX8_night_6 : decode cX8_night 6 = .ok (.iconst 0, 1) := by decide +kernel
theorem dX8_night_7 : decode cX8_night 7 = .ok (.invokevirtual 169, 3) := by decide +kernel
theorem dX8_night_10 : decode cX8_night 10 = .ok (.ireturn, 1) := by decide +kernel
theorem dX8_of_0 : decode cX8_of 0 = .ok (.aload_n 0, 1) := by decide +kernel
theorem dX8_of_1 : decode cX8_of 1 = .ok (.iload_n 1, 1) := by decide +kernel
theorem dX8_of_2 : decode cX8_of 2 = .ok (.invokevirtual 103, 3) := by decide +kernel
theorem dX8_of_5 : decode cX8_of 5 = .ok (.ifCond .ne 5, 3) := by decide +kernel
theorem dX8_of_8 : decode cX8_of 8 = .ok (.iconst (-1), 1) := by decide +kernel
theorem dX8_of_9 : decode cX8_of 9 = .ok (.ireturn, 1) := by decide +kernel
theorem dX8_of_10 : decode cX8_of 10 = .ok (.iload_n 2, 1) := by decide +kernel
theorem dX8_of_11 : decode cX8_of 11 = .ok (.iconst 4, 1) := by decide +kernel
theorem dX8_of_12 : decode cX8_of 12 = .ok (.if_icmp .ne 11, 3) := by decide +kernel
theorem dX8_of_15 : decode cX8_of 15 = .ok (.aload_n 0, 1) := by decide +kernel
theorem dX8_of_16 : decode cX8_of 16 = .ok (.iload_n 1, 1) := by decide +kernel
theorem dX8_of_17 : decode cX8_of 17 = .ok (.invokevirtual 58, 3) := by decide +kernel
theorem dX8_of_20 : decode cX8_of 20 = .ok (.goto 52, 3) := by decide +kernel
