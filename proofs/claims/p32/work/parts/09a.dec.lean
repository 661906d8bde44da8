theorem dX0_ofFloat_0 : decode cX0_ofFloat 0 = .ok (.fload_n 0, 1) := by decide +kernel
theorem dX0_ofFloat_1 : decode cX0_ofFloat 1 = .ok (.fconst 0, 1) := by decide +kernel
theorem dX0_ofFloat_2 : decode cX0_ofFloat 2 = .ok (.fcmp .g, 1) := by decide +kernel
theorem dX0_ofFloat_3 : decode cX0_ofFloat 3 = .ok (.ifCond .gt 5, 3) := by decide +kernel
theorem dX0_ofFloat_6 : decode cX0_ofFloat 6 = .ok (.iconst 0, 1) := by decide +kernel
theorem dX0_ofFloat_7 : decode cX0_ofFloat 7 = .ok (.ireturn, 1) := by decide +kernel
theorem dX0_ofFloat_8 : decode cX0_ofFloat 8 = .ok (.fload_n 0, 1) := by decide +kernel
theorem dX0_ofFloat_9 : decode cX0_ofFloat 9 = .ok (.fstore_n 1, 1) := by decide +kernel
theorem dX0_ofFloat_10 : decode cX0_ofFloat 10 = .ok (.bipush 127, 2) := by decide +kernel
theorem dX0_ofFloat_12 : decode cX0_ofFloat 12 = .ok (.istore_n 2, 1) := by decide +kernel
theorem dX0_ofFloat_13 : decode cX0_ofFloat 13 = .ok (.iconst 0, 1) := by decide +kernel
theorem dX0_ofFloat_14 : decode cX0_ofFloat 14 = .ok (.istore_n 3, 1) := by decide +kernel
theorem dX0_ofFloat_15 : decode cX0_ofFloat 15 = .ok (.iload_n 3, 1) := by decide +kernel
theorem dX0_ofFloat_16 : decode cX0_ofFloat 16 = .ok (.bipush 100, 2) := by decide +kernel
theorem dX0_ofFloat_18 : decode cX0_ofFloat 18 = .ok (.if_icmp .ge 22, 3) := by decide +kernel
theorem dX0_ofFloat_21 : decode cX0_ofFloat 21 = .ok (.fload_n 1, 1) := by decide +kernel
theorem dX0_ofFloat_22 : decode cX0_ofFloat 22 = .ok (.fconst 2, 1) := by decide +kernel
theorem dX0_ofFloat_23 : decode cX0_ofFloat 23 = .ok (.fcmp .l, 1) := by decide +kernel
theorem dX0_ofFloat_24 : decode cX0_ofFloat 24 = .ok (.ifCond .lt 16, 3) := by decide +kernel
theorem dX0_ofFloat_27 : decode cX0_ofFloat 27 = .ok (.fload_n 1, 1) := by decide +kernel
theorem dX0_ofFloat_28 : decode cX0_ofFloat 28 = .ok (.fconst 2, 1) := by decide +kernel
theorem dX0_ofFloat_29 : decode cX0_ofFloat 29 = .ok (.fdiv, 1) := by decide +kernel
theorem dX0_ofFloat_30 : decode cX0_ofFloat 30 = .ok (.fstore_n 1, 1) := by decide +kernel
theorem dX0_ofFloat_31 : decode cX0_ofFloat 31 = .ok (.iinc 2 1, 3) := by decide +kernel
theorem dX0_ofFloat_34 : decode cX0_ofFloat 34 = .ok (.iinc 3 1, 3) := by decide +kernel
theorem dX0_ofFloat_37 : decode cX0_ofFloat 37 = .ok (.goto (-22), 3) := by decide +kernel
theorem dX0_ofFloat_40 : decode cX0_ofFloat 40 = .ok (.iconst 0, 1) := by decide +kernel
theorem dX0_ofFloat_41 : decode cX0_ofFloat 41 = .ok (.istore_n 3, 1) := by decide +kernel
theorem dX0_ofFloat_42 : decode cX0_ofFloat 42 = .ok (.iload_n 3, 1) := by decide +kernel
theorem dX0_ofFloat_43 : decode cX0_ofFloat 43 = .ok (.bipush 100, 2) := by decide +kernel
theorem dX0_ofFloat_45 : decode cX0_ofFloat 45 = .ok (.if_icmp .ge 22, 3) := by decide +kernel
theorem dX0_ofFloat_48 : decode cX0_ofFloat 48 = .ok (.fload_n 1, 1) := by decide +kernel
theorem dX0_ofFloat_49 : decode cX0_ofFloat 49 = .ok (.fconst 1, 1) := by decide +kernel
theorem dX0_ofFloat_50 : decode cX0_ofFloat 50 = .ok (.fcmp .g, 1) := by decide +kernel
theorem dX0_ofFloat_51 : decode cX0_ofFloat 51 = .ok (.ifCond .ge 16, 3) := by decide +kernel
theorem dX0_ofFloat_54 : decode cX0_ofFloat 54 = .ok (.fload_n 1, 1) := by decide +kernel
theorem dX0_ofFloat_55 : decode cX0_ofFloat 55 = .ok (.fconst 2, 1) := by decide +kernel
theorem dX0_ofFloat_56 : decode cX0_ofFloat 56 = .ok (.fmul, 1) := by decide +kernel
theorem dX0_ofFloat_57 : decode cX0_ofFloat 57 = .ok (.fstore_n 1, 1) := by decide +kernel
theorem dX0_ofFloat_58 : decode cX0_ofFloat 58 = .ok (.iinc 2 (-1), 3) := by decide +kernel
theorem dX0_ofFloat_61 : decode cX0_ofFloat 61 = .ok (.iinc 3 1, 3) := by decide +kernel
theorem dX0_ofFloat_64 : decode cX0_ofFloat 64 = .ok (.goto (-22), 3) := by decide +kernel
theorem dX0_ofFloat_67 : decode cX0_ofFloat 67 = .ok (.iload_n 2, 1) := by decide +kernel
theorem dX0_ofFloat_68 : decode cX0_ofFloat 68 = .ok (.bipush 23, 2) := by decide +kernel
theorem dX0_ofFloat_70 : decode cX0_ofFloat 70 = .ok (.ishl, 1) := by decide +kernel
theorem dX0_ofFloat_71 : decode cX0_ofFloat 71 = .ok (.fload_n 1, 1) := by decide +kernel
theorem dX0_ofFloat_72 : decode cX0_ofFloat 72 = .ok (.fconst 1, 1) := by decide +kernel
theorem dX0_ofFloat_73 : decode cX0_ofFloat 73 = .ok (.fsub, 1) := by decide +kernel
theorem dX0_ofFloat_74 : decode cX0_ofFloat 74 = .ok (.ldc 9, 2) := by decide +kernel
theorem dX0_ofFloat_76 : decode cX0_ofFloat 76 = .ok (.fmul, 1) := by decide +kernel
theorem dX0_ofFloat_77 : decode cX0_ofFloat 77 = .ok (.f2i, 1) := by decide +kernel
theorem dX0_ofFloat_78 : decode cX0_ofFloat 78 = .ok (.ior, 1) := by decide +kernel
theorem dX0_ofFloat_79 : decode cX0_ofFloat 79 = .ok (.ireturn, 1) := by decide +kernel
theorem dX0_ofDouble_0 : decode cX0_ofDouble 0 = .ok (.dload_n 0, 1) := by decide +kernel
theorem dX0_ofDouble_1 : decode cX0_ofDouble 1 = .ok (.dconst 0, 1) := by decide +kernel
theorem dX0_ofDouble_2 : decode cX0_ofDouble 2 = .ok (.dcmp .g, 1) := by decide +kernel
theorem dX0_ofDouble_3 : decode cX0_ofDouble 3 = .ok (.ifCond .gt 5, 3) := by decide +kernel
theorem dX0_ofDouble_6 : decode cX0_ofDouble 6 = .ok (.lconst 0, 1) := by decide +kernel
theorem dX0_ofDouble_7 : decode cX0_ofDouble 7 = .ok (.lreturn, 1) := by decide +kernel
theorem dX0_ofDouble_8 : decode cX0_ofDouble 8 = .ok (.dload_n 0, 1) := by decide +kernel
theorem dX0_ofDouble_9 : decode cX0_ofDouble 9 = .ok (.dstore_n 2, 1) := by decide +kernel
theorem dX0_ofDouble_10 : decode cX0_ofDouble 10 = .ok (.ldc2_w 10, 3) := by decide +kernel
theorem dX0_ofDouble_13 : decode cX0_ofDouble 13 = .ok (.lstore 4, 2) := by decide +kernel
theorem dX0_ofDouble_15 : decode cX0_ofDouble 15 = .ok (.iconst 0, 1) := by decide +kernel
theorem dX0_ofDouble_16 : decode cX0_ofDouble 16 = .ok (.istore 6, 2) := by decide +kernel
theorem dX0_ofDouble_18 : decode cX0_ofDouble 18 = .ok (.iload 6, 2) := by decide +kernel
theorem dX0_ofDouble_20 : decode cX0_ofDouble 20 = .ok (.bipush 100, 2) := by decide +kernel
theorem dX0_ofDouble_22 : decode cX0_ofDouble 22 = .ok (.if_icmp .ge 29, 3) := by decide +kernel
theorem dX0_ofDouble_25 : decode cX0_ofDouble 25 = .ok (.dload_n 2, 1) := by decide +kernel
theorem dX0_ofDouble_26 : decode cX0_ofDouble 26 = .ok (.ldc2_w 12, 3) := by decide +kernel
theorem dX0_ofDouble_29 : decode cX0_ofDouble 29 = .ok (.dcmp .l, 1) := by decide +kernel
theorem dX0_ofDouble_30 : decode cX0_ofDouble 30 = .ok (.ifCond .lt 21, 3) := by decide +kernel
theorem dX0_ofDouble_33 : decode cX0_ofDouble 33 = .ok (.dload_n 2, 1) := by decide +kernel
theorem dX0_ofDouble_34 : decode cX0_ofDouble 34 = .ok (.ldc2_w 12, 3) := by decide +kernel
theorem dX0_ofDouble_37 : decode cX0_ofDouble 37 = .ok (.ddiv, 1) := by decide +kernel
theorem dX0_ofDouble_38 : decode cX0_ofDouble 38 = .ok (.dstore_n 2, 1) := by decide +kernel
theorem dX0_ofDouble_39 : decode cX0_ofDouble 39 = .ok (.lload 4, 2) := by decide +kernel
theorem dX0_ofDouble_41 : decode cX0_ofDouble 41 = .ok (.lconst 1, 1) := by decide +kernel
theorem dX0_ofDouble_42 : decode cX0_ofDouble 42 = .ok (.ladd, 1) := by decide +kernel
theorem dX0_ofDouble_43 : decode cX0_ofDouble 43 = .ok (.lstore 4, 2) := by decide +kernel
theorem dX0_ofDouble_45 : decode cX0_ofDouble 45 = .ok (.iinc 6 1, 3) := by decide +kernel
theorem dX0_ofDouble_48 : decode cX0_ofDouble 48 = .ok (.goto (-30), 3) := by decide +kernel
theorem dX0_ofDouble_51 : decode cX0_ofDouble 51 = .ok (.iconst 0, 1) := by decide +kernel
theorem dX0_ofDouble_52 : decode cX0_ofDouble 52 = .ok (.istore 6, 2) := by decide +kernel
theorem dX0_ofDouble_54 : decode cX0_ofDouble 54 = .ok (.iload 6, 2) := by decide +kernel
theorem dX0_ofDouble_56 : decode cX0_ofDouble 56 = .ok (.bipush 100, 2) := by decide +kernel
theorem dX0_ofDouble_58 : decode cX0_ofDouble 58 = .ok (.if_icmp .ge 27, 3) := by decide +kernel
theorem dX0_ofDouble_61 : decode cX0_ofDouble 61 = .ok (.dload_n 2, 1) := by decide +kernel
theorem dX0_ofDouble_62 : decode cX0_ofDouble 62 = .ok (.dconst 1, 1) := by decide +kernel
theorem dX0_ofDouble_63 : decode cX0_ofDouble 63 = .ok (.dcmp .g, 1) := by decide +kernel
theorem dX0_ofDouble_64 : decode cX0_ofDouble 64 = .ok (.ifCond .ge 21, 3) := by decide +kernel
theorem dX0_ofDouble_67 : decode cX0_ofDouble 67 = .ok (.dload_n 2, 1) := by decide +kernel
theorem dX0_ofDouble_68 : decode cX0_ofDouble 68 = .ok (.ldc2_w 12, 3) := by decide +kernel
theorem dX0_ofDouble_71 : decode cX0_ofDouble 71 = .ok (.dmul, 1) := by decide +kernel
theorem dX0_ofDouble_72 : decode cX0_ofDouble 72 = .ok (.dstore_n 2, 1) := by decide +kernel
theorem dX0_ofDouble_73 : decode cX0_ofDouble 73 = .ok (.lload 4, 2) := by decide +kernel
theorem dX0_ofDouble_75 : decode cX0_ofDouble 75 = .ok (.lconst 1, 1) := by decide +kernel
theorem dX0_ofDouble_76 : decode cX0_ofDouble 76 = .ok (.lsub, 1) := by decide +kernel
theorem dX0_ofDouble_77 : decode cX0_ofDouble 77 = .ok (.lstore 4, 2) := by decide +kernel
theorem dX0_ofDouble_79 : decode cX0_ofDouble 79 = .ok (.iinc 6 1, 3) := by decide +kernel
theorem dX0_ofDouble_82 : decode cX0_ofDouble 82 = .ok (.goto (-28), 3) := by decide +kernel
theorem dX0_ofDouble_85 : decode cX0_ofDouble 85 = .ok (.lload 4, 2) := by decide +kernel
theorem dX0_ofDouble_87 : decode cX0_ofDouble 87 = .ok (.bipush 52, 2) := by decide +kernel
theorem dX0_ofDouble_89 : decode cX0_ofDouble 89 = .ok (.lshl, 1) := by decide +kernel
theorem dX0_ofDouble_90 : decode cX0_ofDouble 90 = .ok (.dload_n 2, 1) := by decide +kernel
theorem dX0_ofDouble_91 : decode cX0_ofDouble 91 = .ok (.dconst 1, 1) := by decide +kernel
theorem dX0_ofDouble_92 : decode cX0_ofDouble 92 = .ok (.dsub, 1) := by decide +kernel
theorem dX0_ofDouble_93 : decode cX0_ofDouble 93 = .ok (.ldc2_w 14, 3) := by decide +kernel
theorem dX0_ofDouble_96 : decode cX0_ofDouble 96 = .ok (.dmul, 1) := by decide +kernel
theorem dX0_ofDouble_97 : decode cX0_ofDouble 97 = .ok (.d2l, 1) := by decide +kernel
theorem dX0_ofDouble_98 : decode cX0_ofDouble 98 = .ok (.lor, 1) := by decide +kernel
theorem dX0_ofDouble_99 : decode cX0_ofDouble 99 = .ok (.lreturn, 1) := by decide +kernel
theorem dX1_init_0 : decode cX1_init 0 = .ok (.aload_n 0, 1) := by decide +kernel
theorem dX1_init_1 : decode cX1_init 1 = .ok (.invokespecial 3, 3) := by decide +kernel
theorem dX1_init_4 : decode cX1_init 4 = .ok (.aload_n 0, 1) := by decide +kernel
theorem dX1_init_5 : decode cX1_init 5 = .ok (.aload_n 1, 1) := by decide +kernel
theorem dX1_init_6 : decode cX1_init 6 = .ok (.putfield 9, 3) := by decide +kernel
theorem dX1_init_9 : decode cX1_init 9 = .ok (.return_, 1) := by decide +kernel
theorem dX1_weightOf_0 : decode cX1_weightOf 0 = .ok (.aload_n 0, 1) := by decide +kernel
theorem dX1_weightOf_1 : decode cX1_weightOf 1 = .ok (.getfield 9, 3) := by decide +kernel
theorem dX1_weightOf_4 : decode cX1_weightOf 4 = .ok (.bipush 6, 2) := by decide +kernel
theorem dX1_weightOf_6 : decode cX1_weightOf 6 = .ok (.invokevirtual 15, 3) := by decide +kernel
theorem dX1_weightOf_9 : decode cX1_weightOf 9 = .ok (.istore_n 2, 1) := by decide +kernel
theorem dX1_weightOf_10 : decode cX1_weightOf 10 = .ok (.iconst 0, 1) := by decide +kernel
theorem dX1_weightOf_11 : decode cX1_weightOf 11 = .ok (.istore_n 3, 1) := by decide +kernel
theorem dX1_weightOf_12 : decode cX1_weightOf 12 = .ok (.iconst 0, 1) := by decide +kernel
theorem dX1_weightOf_13 : decode cX1_weightOf 13 = .ok (.istore 4, 2) := by decide +kernel
theorem dX1_weightOf_15 : decode cX1_weightOf 15 = .ok (.iload 4, 2) := by decide +kernel
theorem dX1_weightOf_17 : decode cX1_weightOf 17 = .ok (.iload_n 2, 1) := by decide +kernel
theorem dX1_weightOf_18 : decode cX1_weightOf 18 = .ok (.if_icmp .ge 32, 3) := by decide +kernel
theorem dX1_weightOf_21 : decode cX1_weightOf 21 = .ok (.iload_n 1, 1) := by decide +kernel
theorem dX1_weightOf_22 : decode cX1_weightOf 22 = .ok (.iload 4, 2) := by decide +kernel
theorem dX1_weightOf_24 : decode cX1_weightOf 24 = .ok (.ishr, 1) := by decide +kernel
theorem dX1_weightOf_25 : decode cX1_weightOf 25 = .ok (.iconst 1, 1) := by decide +kernel
theorem dX1_weightOf_26 : decode cX1_weightOf 26 = .ok (.iand, 1) := by decide +kernel
theorem dX1_weightOf_27 : decode cX1_weightOf 27 = .ok (.iconst 1, 1) := by decide +kernel
theorem dX1_weightOf_28 : decode cX1_weightOf 28 = .ok (.if_icmp .ne 16, 3) := by decide +kernel
theorem dX1_weightOf_31 : decode cX1_weightOf 31 = .ok (.iload_n 3, 1) := by decide +kernel
theorem dX1_weightOf_32 : decode cX1_weightOf 32 = .ok (.aload_n 0, 1) := by decide +kernel
theorem dX1_weightOf_33 : decode cX1_weightOf 33 = .ok (.getfield 9, 3) := by decide +kernel
theorem dX1_weightOf_36 : decode cX1_weightOf 36 = .ok (.iload 4, 2) := by decide +kernel
theorem dX1_weightOf_38 : decode cX1_weightOf 38 = .ok (.iconst 4, 1) := by decide +kernel
theorem dX1_weightOf_39 : decode cX1_weightOf 39 = .ok (.invokevirtual 21, 3) := by decide +kernel
theorem dX1_weightOf_42 : decode cX1_weightOf 42 = .ok (.iadd, 1) := by decide +kernel
theorem dX1_weightOf_43 : decode cX1_weightOf 43 = .ok (.istore_n 3, 1) := by decide +kernel
theorem dX1_weightOf_44 : decode cX1_weightOf 44 = .ok (.iinc 4 1, 3) := by decide +kernel
theorem dX1_weightOf_47 : decode cX1_weightOf 47 = .ok (.goto (-32), 3) := by decide +kernel
theorem dX1_weightOf_50 : decode cX1_weightOf 50 = .ok (.iload_n 3, 1) := by decide +kernel
theorem dX1_weightOf_51 : decode cX1_weightOf 51 = .ok (.ireturn, 1) := by decide +kernel
theorem dX1_uncutBlocks_0 : decode cX1_uncutBlocks 0 = .ok (.iconst 1, 1) := by decide +kernel
theorem dX1_uncutBlocks_1 : decode cX1_uncutBlocks 1 = .ok (.aload_n 0, 1) := by decide +kernel
theorem dX1_uncutBlocks_2 : decode cX1_uncutBlocks 2 = .ok (.getfield 9, 3) := by decide +kernel
theorem dX1_uncutBlocks_5 : decode cX1_uncutBlocks 5 = .ok (.bipush 6, 2) := by decide +kernel
theorem dX1_uncutBlocks_7 : decode cX1_uncutBlocks 7 = .ok (.invokevirtual 15, 3) := by decide +kernel
theorem dX1_uncutBlocks_10 : decode cX1_uncutBlocks 10 = .ok (.ishl, 1) := by decide +kernel
theorem dX1_uncutBlocks_11 : decode cX1_uncutBlocks 11 = .ok (.iconst 1, 1) := by decide +kernel
theorem dX1_uncutBlocks_12 : decode cX1_uncutBlocks 12 = .ok (.isub, 1) := by decide +kernel
theorem dX1_uncutBlocks_13 : decode cX1_uncutBlocks 13 = .ok (.istore_n 1, 1) := by decide +kernel
theorem dX1_uncutBlocks_14 : decode cX1_uncutBlocks 14 = .ok (.iload_n 1, 1) := by decide +kernel
theorem dX1_uncutBlocks_15 : decode cX1_uncutBlocks 15 = .ok (.aload_n 0, 1) := by decide +kernel
theorem dX1_uncutBlocks_16 : decode cX1_uncutBlocks 16 = .ok (.getfield 9, 3) := by decide +kernel
theorem dX1_uncutBlocks_19 : decode cX1_uncutBlocks 19 = .ok (.iconst 5, 1) := by decide +kernel
theorem dX1_uncutBlocks_20 : decode cX1_uncutBlocks 20 = .ok (.iconst 4, 1) := by decide +kernel
theorem dX1_uncutBlocks_21 : decode cX1_uncutBlocks 21 = .ok (.invokevirtual 25, 3) := by decide +kernel
theorem dX1_uncutBlocks_24 : decode cX1_uncutBlocks 24 = .ok (.iconst (-1), 1) := by decide +kernel
theorem dX1_uncutBlocks_25 : decode cX1_uncutBlocks 25 = .ok (.ixor, 1) := by decide +kernel
theorem dX1_uncutBlocks_26 : decode cX1_uncutBlocks 26 = .ok (.iand, 1) := by decide +kernel
theorem dX1_uncutBlocks_27 : decode cX1_uncutBlocks 27 = .ok (.ireturn, 1) := by decide +kernel
theorem dX1_uncutWeight_0 : decode cX1_uncutWeight 0 = .ok (.aload_n 0, 1) := by decide +kernel
theorem dX1_uncutWeight_1 : decode cX1_uncutWeight 1 = .ok (.aload_n 0, 1) := by decide +kernel
theorem dX1_uncutWeight_2 : decode cX1_uncutWeight 2 = .ok (.invokevirtual 28, 3) := by decide +kernel
theorem dX1_uncutWeight_5 : decode cX1_uncutWeight 5 = .ok (.invokevirtual 32, 3) := by decide +kernel
theorem dX1_uncutWeight_8 : decode cX1_uncutWeight 8 = .ok (.ireturn, 1) := by decide +kernel
theorem dX1_quarriedWeight_0 : decode cX1_quarriedWeight 0 = .ok (.aload_n 0, 1) := by decide +kernel
theorem dX1_quarriedWeight_1 : decode cX1_quarriedWeight 1 = .ok (.aload_n 0, 1) := by decide +kernel
theorem dX1_quarriedWeight_2 : decode cX1_quarriedWeight 2 = .ok (.getfield 9, 3) := by decide +kernel
theorem dX1_quarriedWeight_5 : decode cX1_quarriedWeight 5 = .ok (.bipush 10, 2) := by decide +kernel
theorem dX1_quarriedWeight_7 : decode cX1_quarriedWeight 7 = .ok (.bipush (-6), 2) := by decide +kernel
theorem dX1_quarriedWeight_9 : decode cX1_quarriedWeight 9 = .ok (.invokevirtual 25, 3) := by decide +kernel
theorem dX1_quarriedWeight_12 : decode cX1_quarriedWeight 12 = .ok (.invokevirtual 32, 3) := by decide +kernel
theorem dX1_quarriedWeight_15 : decode cX1_quarriedWeight 15 = .ok (.ireturn, 1) := by decide +kernel
theorem dX1_lostWeight_0 : decode cX1_lostWeight 0 = .ok (.aload_n 0, 1) := by decide +kernel
theorem dX1_lostWeight_1 : decode cX1_lostWeight 1 = .ok (.invokevirtual 35, 3) := by decide +kernel
theorem dX1_lostWeight_4 : decode cX1_lostWeight 4 = .ok (.aload_n 0, 1) := by decide +kernel
theorem dX1_lostWeight_5 : decode cX1_lostWeight 5 = .ok (.invokevirtual 38, 3) := by decide +kernel
theorem dX1_lostWeight_8 : decode cX1_lostWeight 8 = .ok (.isub, 1) := by decide +kernel
theorem dX1_lostWeight_9 : decode cX1_lostWeight 9 = .ok (.ireturn, 1) := by decide +kernel
theorem dX1_allInvoices_0 : decode cX1_allInvoices 0 = .ok (.aload_n 0, 1) := by decide +kernel
theorem dX1_allInvoices_1 : decode cX1_allInvoices 1 = .ok (.getfield 9, 3) := by decide +kernel
theorem dX1_allInvoices_4 : decode cX1_allInvoices 4 = .ok (.bipush 7, 2) := by decide +kernel
theorem dX1_allInvoices_6 : decode cX1_allInvoices 6 = .ok (.invokevirtual 15, 3) := by decide +kernel
theorem dX1_allInvoices_9 : decode cX1_allInvoices 9 = .ok (.istore_n 1, 1) := by decide +kernel
theorem dX1_allInvoices_10 : decode cX1_allInvoices 10 = .ok (.iconst 0, 1) := by decide +kernel
theorem dX1_allInvoices_11 : decode cX1_allInvoices 11 = .ok (.istore_n 2, 1) := by decide +kernel
theorem dX1_allInvoices_12 : decode cX1_allInvoices 12 = .ok (.iconst 0, 1) := by decide +kernel
theorem dX1_allInvoices_13 : decode cX1_allInvoices 13 = .ok (.istore_n 3, 1) := by decide +kernel
theorem dX1_allInvoices_14 : decode cX1_allInvoices 14 = .ok (.iload_n 3, 1) := by decide +kernel
theorem dX1_allInvoices_15 : decode cX1_allInvoices 15 = .ok (.iload_n 1, 1) := by decide +kernel
theorem dX1_allInvoices_16 : decode cX1_allInvoices 16 = .ok (.if_icmp .ge 34, 3) := by decide +kernel
theorem dX1_allInvoices_19 : decode cX1_allInvoices 19 = .ok (.aload_n 0, 1) := by decide +kernel
theorem dX1_allInvoices_20 : decode cX1_allInvoices 20 = .ok (.getfield 9, 3) := by decide +kernel
theorem dX1_allInvoices_23 : decode cX1_allInvoices 23 = .ok (.iload_n 3, 1) := by decide +kernel
theorem dX1_allInvoices_24 : decode cX1_allInvoices 24 = .ok (.iconst 3, 1) := by decide +kernel
theorem dX1_allInvoices_25 : decode cX1_allInvoices 25 = .ok (.invokevirtual 41, 3) := by decide +kernel
theorem dX1_allInvoices_28 : decode cX1_allInvoices 28 = .ok (.iconst 2, 1) := by decide +kernel
theorem dX1_allInvoices_29 : decode cX1_allInvoices 29 = .ok (.if_icmp .ne 15, 3) := by decide +kernel
theorem dX1_allInvoices_32 : decode cX1_allInvoices 32 = .ok (.iload_n 2, 1) := by decide +kernel
theorem dX1_allInvoices_33 : decode cX1_allInvoices 33 = .ok (.aload_n 0, 1) := by decide +kernel
theorem dX1_allInvoices_34 : decode cX1_allInvoices 34 = .ok (.getfield 9, 3) := by decide +kernel
theorem dX1_allInvoices_37 : decode cX1_allInvoices 37 = .ok (.iload_n 3, 1) := by decide +kernel
theorem dX1_allInvoices_38 : decode cX1_allInvoices 38 = .ok (.iconst 5, 1) := by decide +kernel
theorem dX1_allInvoices_39 : decode cX1_allInvoices 39 = .ok (.invokevirtual 41, 3) := by decide +kernel
theorem dX1_allInvoices_42 : decode cX1_allInvoices 42 = .ok (.iadd, 1) := by decide +kernel
theorem dX1_allInvoices_43 : decode cX1_allInvoices 43 = .ok (.istore_n 2, 1) := by decide +kernel
theorem dX1_allInvoices_44 : decode cX1_allInvoices 44 = .ok (.iinc 3 1, 3) := by decide +kernel
theorem dX1_allInvoices_47 : decode cX1_allInvoices 47 = .ok (.goto (-33), 3) := by decide +kernel
theorem dX1_allInvoices_50 : decode cX1_allInvoices 50 = .ok (.iload_n 2, 1) := by decide +kernel
theorem dX1_allInvoices_51 : decode cX1_allInvoices 51 = .ok (.ireturn, 1) := by decide +kernel
theorem dX1_roofHasRoom_0 : decode cX1_roofHasRoom 0 = .ok (.aload_n 0, 1) := by decide +kernel
theorem dX1_roofHasRoom_1 : decode cX1_roofHasRoom 1 = .ok (.getfield 9, 3) := by decide +kernel
theorem dX1_roofHasRoom_4 : decode cX1_roofHasRoom 4 = .ok (.iconst 5, 1) := by decide +kernel
theorem dX1_roofHasRoom_5 : decode cX1_roofHasRoom 5 = .ok (.iconst 1, 1) := by decide +kernel
theorem dX1_roofHasRoom_6 : decode cX1_roofHasRoom 6 = .ok (.invokevirtual 25, 3) := by decide +kernel
theorem dX1_roofHasRoom_9 : decode cX1_roofHasRoom 9 = .ok (.invokestatic 44, 3) := by decide +kernel
theorem dX1_roofHasRoom_12 : decode cX1_roofHasRoom 12 = .ok (.iconst 4, 1) := by decide +kernel
theorem dX1_roofHasRoom_13 : decode cX1_roofHasRoom 13 = .ok (.if_icmp .ge 7, 3) := by decide +kernel
theorem dX1_roofHasRoom_16 : decode cX1_roofHasRoom 16 = .ok (.iconst 1, 1) := by decide +kernel
theorem dX1_roofHasRoom_17 : decode cX1_roofHasRoom 17 = .ok (.goto 4, 3) := by decide +kernel
theorem dX1_roofHasRoom_20 : decode cX1_roofHasRoom 20 = .ok (.iconst 0, 1) := by decide +kernel
theorem dX1_roofHasRoom_21 : decode cX1_roofHasRoom 21 = .ok (.ireturn, 1) := by decide +kernel
theorem dX1_isAtHand_0 : decode cX1_isAtHand 0 = .ok (.aload_n 0, 1) := by decide +kernel
theorem dX1_isAtHand_1 : decode cX1_isAtHand 1 = .ok (.getfield 9, 3) := by decide +kernel
theorem dX1_isAtHand_4 : decode cX1_isAtHand 4 = .ok (.iload_n 1, 1) := by decide +kernel
theorem dX1_isAtHand_5 : decode cX1_isAtHand 5 = .ok (.iconst 5, 1) := by decide +kernel
theorem dX1_isAtHand_6 : decode cX1_isAtHand 6 = .ok (.invokevirtual 21, 3) := by decide +kernel
theorem dX1_isAtHand_9 : decode cX1_isAtHand 9 = .ok (.istore_n 2, 1) := by decide +kernel
theorem dX1_isAtHand_10 : decode cX1_isAtHand 10 = .ok (.iload_n 2, 1) := by decide +kernel
theorem dX1_isAtHand_11 : decode cX1_isAtHand 11 = .ok (.ifCond .eq 8, 3) := by decide +kernel
theorem dX1_isAtHand_14 : decode cX1_isAtHand 14 = .ok (.iload_n 2, 1) := by decide +kernel
theorem dX1_isAtHand_15 : decode cX1_isAtHand 15 = .ok (.iconst 1, 1) := by decide +kernel
theorem dX1_isAtHand_16 : decode cX1_isAtHand 16 = .ok (.if_icmp .ne 7, 3) := by decide +kernel
theorem dX1_isAtHand_19 : decode cX1_isAtHand 19 = .ok (.iconst 1, 1) := by decide +kernel
theorem dX1_isAtHand_20 : decode cX1_isAtHand 20 = .ok (.goto 4, 3) := by decide +kernel
theorem dX1_isAtHand_23 : decode cX1_isAtHand 23 = .ok (.iconst 0, 1) := by decide +kernel
theorem dX1_isAtHand_24 : decode cX1_isAtHand 24 = .ok (.ireturn, 1) := by decide +kernel
theorem dX1_mayBeSawn_0 : decode cX1_mayBeSawn 0 = .ok (.aload_n 0, 1) := by decide +kernel
theorem dX1_mayBeSawn_1 : decode cX1_mayBeSawn 1 = .ok (.getfield 9, 3) := by decide +kernel
theorem dX1_mayBeSawn_4 : decode cX1_mayBeSawn 4 = .ok (.iconst 4, 1) := by decide +kernel
theorem dX1_mayBeSawn_5 : decode cX1_mayBeSawn 5 = .ok (.invokevirtual 15, 3) := by decide +kernel
theorem dX1_mayBeSawn_8 : decode cX1_mayBeSawn 8 = .ok (.ifCond .ne 30, 3) := by decide +kernel
theorem dX1_mayBeSawn_11 : decode cX1_mayBeSawn 11 = .ok (.aload_n 0, 1) := by decide +kernel
theorem dX1_mayBeSawn_12 : decode cX1_mayBeSawn 12 = .ok (.iload_n 1, 1) := by decide +kernel
theorem dX1_mayBeSawn_13 : decode cX1_mayBeSawn 13 = .ok (.invokevirtual 49, 3) := by decide +kernel
theorem dX1_mayBeSawn_16 : decode cX1_mayBeSawn 16 = .ok (.ifCond .eq 22, 3) := by decide +kernel
theorem dX1_mayBeSawn_19 : decode cX1_mayBeSawn 19 = .ok (.aload_n 0, 1) := by decide +kernel
theorem dX1_mayBeSawn_20 : decode cX1_mayBeSawn 20 = .ok (.getfield 9, 3) := by decide +kernel
theorem dX1_mayBeSawn_23 : decode cX1_mayBeSawn 23 = .ok (.iload_n 1, 1) := by decide +kernel
theorem dX1_mayBeSawn_24 : decode cX1_mayBeSawn 24 = .ok (.bipush 8, 2) := by decide +kernel
theorem dX1_mayBeSawn_26 : decode cX1_mayBeSawn 26 = .ok (.invokevirtual 21, 3) := by decide +kernel
theorem dX1_mayBeSawn_29 : decode cX1_mayBeSawn 29 = .ok (.bipush (-6), 2) := by decide +kernel
theorem dX1_mayBeSawn_31 : decode cX1_mayBeSawn 31 = .ok (.if_icmp .ne 7, 3) := by decide +kernel
theorem dX1_mayBeSawn_34 : decode cX1_mayBeSawn 34 = .ok (.iconst 1, 1) := by decide +kernel
theorem dX1_mayBeSawn_35 : decode cX1_mayBeSawn 35 = .ok (.goto 4, 3) := by decide +kernel
theorem dX1_mayBeSawn_38 : decode cX1_mayBeSawn 38 = .ok (.iconst 0, 1) := by decide +kernel
theorem dX1_mayBeSawn_39 : decode cX1_mayBeSawn 39 = .ok (.ireturn, 1) := by decide +kernel
theorem dX1_blocksForFrost_0 : decode cX1_blocksForFrost 0 = .ok (.aload_n 0, 1) := by decide +kernel
theorem dX1_blocksForFrost_1 : decode cX1_blocksForFrost 1 = .ok (.getfield 9, 3) := by decide +kernel
theorem dX1_blocksForFrost_4 : decode cX1_blocksForFrost 4 = .ok (.iconst 5, 1) := by decide +kernel
theorem dX1_blocksForFrost_5 : decode cX1_blocksForFrost 5 = .ok (.iconst 0, 1) := by decide +kernel
theorem dX1_blocksForFrost_6 : decode cX1_blocksForFrost 6 = .ok (.invokevirtual 25, 3) := by decide +kernel
theorem dX1_blocksForFrost_9 : decode cX1_blocksForFrost 9 = .ok (.aload_n 0, 1) := by decide +kernel
theorem dX1_blocksForFrost_10 : decode cX1_blocksForFrost 10 = .ok (.getfield 9, 3) := by decide +kernel
theorem dX1_blocksForFrost_13 : decode cX1_blocksForFrost 13 = .ok (.bipush 6, 2) := by decide +kernel
theorem dX1_blocksForFrost_15 : decode cX1_blocksForFrost 15 = .ok (.iconst 0, 1) := by decide +kernel
theorem dX1_blocksForFrost_16 : decode cX1_blocksForFrost 16 = .ok (.invokevirtual 25, 3) := by decide +kernel
theorem dX1_blocksForFrost_19 : decode cX1_blocksForFrost 19 = .ok (.iconst (-1), 1) := by decide +kernel
theorem dX1_blocksForFrost_20 : decode cX1_blocksForFrost 20 = .ok (.ixor, 1) := by decide +kernel
theorem dX1_blocksForFrost_21 : decode cX1_blocksForFrost 21 = .ok (.iand, 1) := by decide +kernel
theorem dX1_blocksForFrost_22 : decode cX1_blocksForFrost 22 = .ok (.ireturn, 1) := by decide +kernel
theorem dX1_isWithinOver_0 : decode cX1_isWithinOver 0 = .ok (.iload_n 1, 1) := by decide +kernel
theorem dX1_isWithinOver_1 : decode cX1_isWithinOver 1 = .ok (.ifCond .lt 19, 3) := by decide +kernel
theorem dX1_isWithinOver_4 : decode cX1_isWithinOver 4 = .ok (.iload_n 1, 1) := by decide +kernel
theorem dX1_isWithinOver_5 : decode cX1_isWithinOver 5 = .ok (.aload_n 0, 1) := by decide +kernel
theorem dX1_isWithinOver_6 : decode cX1_isWithinOver 6 = .ok (.getfield 9, 3) := by decide +kernel
theorem dX1_isWithinOver_9 : decode cX1_isWithinOver 9 = .ok (.iconst 3, 1) := by decide +kernel
theorem dX1_isWithinOver_10 : decode cX1_isWithinOver 10 = .ok (.invokevirtual 15, 3) := by decide +kernel
theorem dX1_isWithinOver_13 : decode cX1_isWithinOver 13 = .ok (.if_icmp .gt 7, 3) := by decide +kernel
theorem dX1_isWithinOver_16 : decode cX1_isWithinOver 16 = .ok (.iconst 1, 1) := by decide +kernel
theorem dX1_isWithinOver_17 : decode cX1_isWithinOver 17 = .ok (.goto 4, 3) := by decide +kernel
theorem dX1_isWithinOver_20 : decode cX1_isWithinOver 20 = .ok (.iconst 0, 1) := by decide +kernel
theorem dX1_isWithinOver_21 : decode cX1_isWithinOver 21 = .ok (.ireturn, 1) := by decide +kernel
theorem dX1_surplus_0 : decode cX1_surplus 0 = .ok (.iload_n 2, 1) := by decide +kernel
theorem dX1_surplus_1 : decode cX1_surplus 1 = .ok (.iload_n 3, 1) := by decide +kernel
theorem dX1_surplus_2 : decode cX1_surplus 2 = .ok (.iload 4, 2) := by decide +kernel
theorem dX1_surplus_4 : decode cX1_surplus 4 = .ok (.invokestatic 53, 3) := by decide +kernel
theorem dX1_surplus_7 : decode cX1_surplus 7 = .ok (.aload_n 0, 1) := by decide +kernel
theorem dX1_surplus_8 : decode cX1_surplus 8 = .ok (.getfield 9, 3) := by decide +kernel
theorem dX1_surplus_11 : decode cX1_surplus 11 = .ok (.iload_n 1, 1) := by decide +kernel
theorem dX1_surplus_12 : decode cX1_surplus 12 = .ok (.iconst 0, 1) := by decide +kernel
theorem dX1_surplus_13 : decode cX1_surplus 13 = .ok (.invokevirtual 41, 3) := by decide +kernel
theorem dX1_surplus_16 : decode cX1_surplus 16 = .ok (.isub, 1) := by decide +kernel
theorem dX1_surplus_17 : decode cX1_surplus 17 = .ok (.istore 5, 2) := by decide +kernel
theorem dX1_surplus_19 : decode cX1_surplus 19 = .ok (.iload_n 2, 1) := by decide +kernel
theorem dX1_surplus_20 : decode cX1_surplus 20 = .ok (.iload_n 3, 1) := by decide +kernel
theorem dX1_surplus_21 : decode cX1_surplus 21 = .ok (.iload 4, 2) := by decide +kernel
theorem dX1_surplus_23 : decode cX1_surplus 23 = .ok (.invokestatic 57, 3) := by decide +kernel
theorem dX1_surplus_26 : decode cX1_surplus 26 = .ok (.aload_n 0, 1) := by decide +kernel
theorem dX1_surplus_27 : decode cX1_surplus 27 = .ok (.getfield 9, 3) := by decide +kernel
theorem dX1_surplus_30 : decode cX1_surplus 30 = .ok (.iload_n 1, 1) := by decide +kernel
theorem dX1_surplus_31 : decode cX1_surplus 31 = .ok (.iconst 1, 1) := by decide +kernel
theorem dX1_surplus_32 : decode cX1_surplus 32 = .ok (.invokevirtual 41, 3) := by decide +kernel
theorem dX1_surplus_35 : decode cX1_surplus 35 = .ok (.isub, 1) := by decide +kernel
theorem dX1_surplus_36 : decode cX1_surplus 36 = .ok (.istore 6, 2) := by decide +kernel
theorem dX1_surplus_38 : decode cX1_surplus 38 = .ok (.iload_n 2, 1) := by decide +kernel
theorem dX1_surplus_39 : decode cX1_surplus 39 = .ok (.iload_n 3, 1) := by decide +kernel
theorem dX1_surplus_40 : decode cX1_surplus 40 = .ok (.iload 4, 2) := by decide +kernel
theorem dX1_surplus_42 : decode cX1_surplus 42 = .ok (.invokestatic 60, 3) := by decide +kernel
theorem dX1_surplus_45 : decode cX1_surplus 45 = .ok (.aload_n 0, 1) := by decide +kernel
theorem dX1_surplus_46 : decode cX1_surplus 46 = .ok (.getfield 9, 3) := by decide +kernel
theorem dX1_surplus_49 : decode cX1_surplus 49 = .ok (.iload_n 1, 1) := by decide +kernel
theorem dX1_surplus_50 : decode cX1_surplus 50 = .ok (.iconst 2, 1) := by decide +kernel
theorem dX1_surplus_51 : decode cX1_surplus 51 = .ok (.invokevirtual 41, 3) := by decide +kernel
theorem dX1_surplus_54 : decode cX1_surplus 54 = .ok (.isub, 1) := by decide +kernel
theorem dX1_surplus_55 : decode cX1_surplus 55 = .ok (.istore 7, 2) := by decide +kernel
theorem dX1_surplus_57 : decode cX1_surplus 57 = .ok (.aload_n 0, 1) := by decide +kernel
theorem dX1_surplus_58 : decode cX1_surplus 58 = .ok (.iload 5, 2) := by decide +kernel
theorem dX1_surplus_60 : decode cX1_surplus 60 = .ok (.invokevirtual 63, 3) := by decide +kernel
theorem dX1_surplus_63 : decode cX1_surplus 63 = .ok (.ifCond .eq 25, 3) := by decide +kernel
theorem dX1_surplus_66 : decode cX1_surplus 66 = .ok (.aload_n 0, 1) := by decide +kernel
theorem dX1_surplus_67 : decode cX1_surplus 67 = .ok (.iload 6, 2) := by decide +kernel
theorem dX1_surplus_69 : decode cX1_surplus 69 = .ok (.invokevirtual 63, 3) := by decide +kernel
theorem dX1_surplus_72 : decode cX1_surplus 72 = .ok (.ifCond .eq 16, 3) := by decide +kernel
theorem dX1_surplus_75 : decode cX1_surplus 75 = .ok (.aload_n 0, 1) := by decide +kernel
theorem dX1_surplus_76 : decode cX1_surplus 76 = .ok (.iload 7, 2) := by decide +kernel
theorem dX1_surplus_78 : decode cX1_surplus 78 = .ok (.invokevirtual 63, 3) := by decide +kernel
theorem dX1_surplus_81 : decode cX1_surplus 81 = .ok (.ifCond .eq 7, 3) := by decide +kernel
theorem dX1_surplus_84 : decode cX1_surplus 84 = .ok (.iconst 1, 1) := by decide +kernel
theorem dX1_surplus_85 : decode cX1_surplus 85 = .ok (.goto 4, 3) := by decide +kernel
theorem dX1_surplus_88 : decode cX1_surplus 88 = .ok (.iconst 0, 1) := by decide +kernel
theorem dX1_surplus_89 : decode cX1_surplus 89 = .ok (.istore 8, 2) := by decide +kernel
theorem dX1_surplus_91 : decode cX1_surplus 91 = .ok (.iload 8, 2) := by decide +kernel
theorem dX1_surplus_93 : decode cX1_surplus 93 = .ok (.ifCond .eq 14, 3) := by decide +kernel
theorem dX1_surplus_96 : decode cX1_surplus 96 = .ok (.iload 5, 2) := by decide +kernel
theorem dX1_surplus_98 : decode cX1_surplus 98 = .ok (.iload 6, 2) := by decide +kernel
theorem dX1_surplus_100 : decode cX1_surplus 100 = .ok (.iadd, 1) := by decide +kernel
theorem dX1_surplus_101 : decode cX1_surplus 101 = .ok (.iload 7, 2) := by decide +kernel
theorem dX1_surplus_103 : decode cX1_surplus 103 = .ok (.iadd, 1) := by decide +kernel
theorem dX1_surplus_104 : decode cX1_surplus 104 = .ok (.goto 5, 3) := by decide +kernel
theorem dX1_surplus_107 : decode cX1_surplus 107 = .ok (.bipush (-6), 2) := by decide +kernel
theorem dX1_surplus_109 : decode cX1_surplus 109 = .ok (.ireturn, 1) := by decide +kernel
theorem dX1_surplusToGive_0 : decode cX1_surplusToGive 0 = .ok (.aload_n 0, 1) := by decide +kernel
theorem dX1_surplusToGive_1 : decode cX1_surplusToGive 1 = .ok (.getfield 9, 3) := by decide +kernel
theorem dX1_surplusToGive_4 : decode cX1_surplusToGive 4 = .ok (.iload_n 2, 1) := by decide +kernel
theorem dX1_surplusToGive_5 : decode cX1_surplusToGive 5 = .ok (.iconst 5, 1) := by decide +kernel
theorem dX1_surplusToGive_6 : decode cX1_surplusToGive 6 = .ok (.invokevirtual 21, 3) := by decide +kernel
theorem dX1_surplusToGive_9 : decode cX1_surplusToGive 9 = .ok (.istore_n 3, 1) := by decide +kernel
theorem dX1_surplusToGive_10 : decode cX1_surplusToGive 10 = .ok (.aload_n 0, 1) := by decide +kernel
theorem dX1_surplusToGive_11 : decode cX1_surplusToGive 11 = .ok (.getfield 9, 3) := by decide +kernel
theorem dX1_surplusToGive_14 : decode cX1_surplusToGive 14 = .ok (.iload_n 1, 1) := by decide +kernel
theorem dX1_surplusToGive_15 : decode cX1_surplusToGive 15 = .ok (.iconst 3, 1) := by decide +kernel
theorem dX1_surplusToGive_16 : decode cX1_surplusToGive 16 = .ok (.invokevirtual 41, 3) := by decide +kernel
theorem dX1_surplusToGive_19 : decode cX1_surplusToGive 19 = .ok (.ifCond .ne 13, 3) := by decide +kernel
theorem dX1_surplusToGive_22 : decode cX1_surplusToGive 22 = .ok (.iload_n 3, 1) := by decide +kernel
theorem dX1_surplusToGive_23 : decode cX1_surplusToGive 23 = .ok (.iconst 3, 1) := by decide +kernel
theorem dX1_surplusToGive_24 : decode cX1_surplusToGive 24 = .ok (.if_icmp .eq 8, 3) := by decide +kernel
theorem dX1_surplusToGive_27 : decode cX1_surplusToGive 27 = .ok (.iload_n 3, 1) := by decide +kernel
theorem dX1_surplusToGive_28 : decode cX1_surplusToGive 28 = .ok (.iconst 4, 1) := by decide +kernel
theorem dX1_surplusToGive_29 : decode cX1_surplusToGive 29 = .ok (.if_icmp .ne 6, 3) := by decide +kernel
theorem dX1_surplusToGive_32 : decode cX1_surplusToGive 32 = .ok (.bipush (-6), 2) := by decide +kernel
theorem dX1_surplusToGive_34 : decode cX1_surplusToGive 34 = .ok (.ireturn, 1) := by decide +kernel
theorem dX1_surplusToGive_35 : decode cX1_surplusToGive 35 = .ok (.aload_n 0, 1) := by decide +kernel
theorem dX1_surplusToGive_36 : decode cX1_surplusToGive 36 = .ok (.getfield 9, 3) := by decide +kernel
theorem dX1_surplusToGive_39 : decode cX1_surplusToGive 39 = .ok (.iload_n 2, 1) := by decide +kernel
theorem dX1_surplusToGive_40 : decode cX1_surplusToGive 40 = .ok (.bipush 8, 2) := by decide +kernel
theorem dX1_surplusToGive_42 : decode cX1_surplusToGive 42 = .ok (.invokevirtual 21, 3) := by decide +kernel
theorem dX1_surplusToGive_45 : decode cX1_surplusToGive 45 = .ok (.bipush (-6), 2) := by decide +kernel
theorem dX1_surplusToGive_47 : decode cX1_surplusToGive 47 = .ok (.if_icmp .ne 16, 3) := by decide +kernel
theorem dX1_surplusToGive_50 : decode cX1_surplusToGive 50 = .ok (.aload_n 0, 1) := by decide +kernel
theorem dX1_surplusToGive_51 : decode cX1_surplusToGive 51 = .ok (.getfield 9, 3) := by decide +kernel
theorem dX1_surplusToGive_54 : decode cX1_surplusToGive 54 = .ok (.iload_n 2, 1) := by decide +kernel
theorem dX1_surplusToGive_55 : decode cX1_surplusToGive 55 = .ok (.bipush 7, 2) := by decide +kernel
theorem dX1_surplusToGive_57 : decode cX1_surplusToGive 57 = .ok (.invokevirtual 21, 3) := by decide +kernel
theorem dX1_surplusToGive_60 : decode cX1_surplusToGive 60 = .ok (.ifCond .eq 6, 3) := by decide +kernel
theorem dX1_surplusToGive_63 : decode cX1_surplusToGive 63 = .ok (.bipush (-6), 2) := by decide +kernel
theorem dX1_surplusToGive_65 : decode cX1_surplusToGive 65 = .ok (.ireturn, 1) := by decide +kernel
theorem dX1_surplusToGive_66 : decode cX1_surplusToGive 66 = .ok (.aload_n 0, 1) := by decide +kernel
theorem dX1_surplusToGive_67 : decode cX1_surplusToGive 67 = .ok (.iload_n 1, 1) := by decide +kernel
theorem dX1_surplusToGive_68 : decode cX1_surplusToGive 68 = .ok (.aload_n 0, 1) := by decide +kernel
theorem dX1_surplusToGive_69 : decode cX1_surplusToGive 69 = .ok (.getfield 9, 3) := by decide +kernel
theorem dX1_surplusToGive_72 : decode cX1_surplusToGive 72 = .ok (.iload_n 2, 1) := by decide +kernel
theorem dX1_surplusToGive_73 : decode cX1_surplusToGive 73 = .ok (.iconst 0, 1) := by decide +kernel
theorem dX1_surplusToGive_74 : decode cX1_surplusToGive 74 = .ok (.invokevirtual 21, 3) := by decide +kernel
theorem dX1_surplusToGive_77 : decode cX1_surplusToGive 77 = .ok (.aload_n 0, 1) := by decide +kernel
theorem dX1_surplusToGive_78 : decode cX1_surplusToGive 78 = .ok (.getfield 9, 3) := by decide +kernel
theorem dX1_surplusToGive_81 : decode cX1_surplusToGive 81 = .ok (.iload_n 2, 1) := by decide +kernel
theorem dX1_surplusToGive_82 : decode cX1_surplusToGive 82 = .ok (.iconst 1, 1) := by decide +kernel
theorem dX1_surplusToGive_83 : decode cX1_surplusToGive 83 = .ok (.invokevirtual 21, 3) := by decide +kernel
theorem dX1_surplusToGive_86 : decode cX1_surplusToGive 86 = .ok (.aload_n 0, 1) := by decide +kernel
theorem dX1_surplusToGive_87 : decode cX1_surplusToGive 87 = .ok (.getfield 9, 3) := by decide +kernel
theorem dX1_surplusToGive_90 : decode cX1_surplusToGive 90 = .ok (.iload_n 2, 1) := by decide +kernel
theorem dX1_surplusToGive_91 : decode cX1_surplusToGive 91 = .ok (.iconst 2, 1) := by decide +kernel
theorem dX1_surplusToGive_92 : decode cX1_surplusToGive 92 = .ok (.invokevirtual 21, 3) := by decide +kernel
theorem dX1_surplusToGive_95 : decode cX1_surplusToGive 95 = .ok (.invokevirtual 66, 3) := by decide +kernel
theorem dX1_surplusToGive_98 : decode cX1_surplusToGive 98 = .ok (.ireturn, 1) := by decide +kernel
theorem dX1_blocksToGive_0 : decode cX1_blocksToGive 0 = .ok (.aload_n 0, 1) := by decide +kernel
theorem dX1_blocksToGive_1 : decode cX1_blocksToGive 1 = .ok (.getfield 9, 3) := by decide +kernel
theorem dX1_blocksToGive_4 : decode cX1_blocksToGive 4 = .ok (.bipush 6, 2) := by decide +kernel
theorem dX1_blocksToGive_6 : decode cX1_blocksToGive 6 = .ok (.invokevirtual 15, 3) := by decide +kernel
theorem dX1_blocksToGive_9 : decode cX1_blocksToGive 9 = .ok (.istore_n 2, 1) := by decide +kernel
theorem dX1_blocksToGive_10 : decode cX1_blocksToGive 10 = .ok (.iconst 0, 1) := by decide +kernel
theorem dX1_blocksToGive_11 : decode cX1_blocksToGive 11 = .ok (.istore_n 3, 1) := by decide +kernel
theorem dX1_blocksToGive_12 : decode cX1_blocksToGive 12 = .ok (.iconst 0, 1) := by decide +kernel
theorem dX1_blocksToGive_13 : decode cX1_blocksToGive 13 = .ok (.istore 4, 2) := by decide +kernel
theorem dX1_blocksToGive_15 : decode cX1_blocksToGive 15 = .ok (.iload 4, 2) := by decide +kernel
theorem dX1_blocksToGive_17 : decode cX1_blocksToGive 17 = .ok (.iload_n 2, 1) := by decide +kernel
theorem dX1_blocksToGive_18 : decode cX1_blocksToGive 18 = .ok (.if_icmp .ge 28, 3) := by decide +kernel
theorem dX1_blocksToGive_21 : decode cX1_blocksToGive 21 = .ok (.aload_n 0, 1) := by decide +kernel
theorem dX1_blocksToGive_22 : decode cX1_blocksToGive 22 = .ok (.iload_n 1, 1) := by decide +kernel
theorem dX1_blocksToGive_23 : decode cX1_blocksToGive 23 = .ok (.iload 4, 2) := by decide +kernel
theorem dX1_blocksToGive_25 : decode cX1_blocksToGive 25 = .ok (.invokevirtual 70, 3) := by decide +kernel
theorem dX1_blocksToGive_28 : decode cX1_blocksToGive 28 = .ok (.bipush (-6), 2) := by decide +kernel
theorem dX1_blocksToGive_30 : decode cX1_blocksToGive 30 = .ok (.if_icmp .eq 10, 3) := by decide +kernel
theorem dX1_blocksToGive_33 : decode cX1_blocksToGive 33 = .ok (.iload_n 3, 1) := by decide +kernel
theorem dX1_blocksToGive_34 : decode cX1_blocksToGive 34 = .ok (.iconst 1, 1) := by decide +kernel
theorem dX1_blocksToGive_35 : decode cX1_blocksToGive 35 = .ok (.iload 4, 2) := by decide +kernel
theorem dX1_blocksToGive_37 : decode cX1_blocksToGive 37 = .ok (.ishl, 1) := by decide +kernel
theorem dX1_blocksToGive_38 : decode cX1_blocksToGive 38 = .ok (.ior, 1) := by decide +kernel
theorem dX1_blocksToGive_39 : decode cX1_blocksToGive 39 = .ok (.istore_n 3, 1) := by decide +kernel
theorem dX1_blocksToGive_40 : decode cX1_blocksToGive 40 = .ok (.iinc 4 1, 3) := by decide +kernel
theorem dX1_blocksToGive_43 : decode cX1_blocksToGive 43 = .ok (.goto (-28), 3) := by decide +kernel
theorem dX1_blocksToGive_46 : decode cX1_blocksToGive 46 = .ok (.iload_n 3, 1) := by decide +kernel
theorem dX1_blocksToGive_47 : decode cX1_blocksToGive 47 = .ok (.ireturn, 1) := by decide +kernel
theorem dX1_nearestBlock_0 : decode cX1_nearestBlock 0 = .ok (.aload_n 0, 1) := by decide +kernel
theorem dX1_nearestBlock_1 : decode cX1_nearestBlock 1 = .ok (.getfield 9, 3) := by decide +kernel
theorem dX1_nearestBlock_4 : decode cX1_nearestBlock 4 = .ok (.bipush 6, 2) := by decide +kernel
theorem dX1_nearestBlock_6 : decode cX1_nearestBlock 6 = .ok (.invokevirtual 15, 3) := by decide +kernel
theorem dX1_nearestBlock_9 : decode cX1_nearestBlock 9 = .ok (.istore_n 2, 1) := by decide +kernel
theorem dX1_nearestBlock_10 : decode cX1_nearestBlock 10 = .ok (.bipush (-6), 2) := by decide +kernel
theorem dX1_nearestBlock_12 : decode cX1_nearestBlock 12 = .ok (.istore_n 3, 1) := by decide +kernel
theorem dX1_nearestBlock_13 : decode cX1_nearestBlock 13 = .ok (.bipush (-6), 2) := by decide +kernel
theorem dX1_nearestBlock_15 : decode cX1_nearestBlock 15 = .ok (.istore 4, 2) := by decide +kernel
theorem dX1_nearestBlock_17 : decode cX1_nearestBlock 17 = .ok (.iconst 0, 1) := by decide +kernel
theorem dX1_nearestBlock_18 : decode cX1_nearestBlock 18 = .ok (.istore 5, 2) := by decide +kernel
theorem dX1_nearestBlock_20 : decode cX1_nearestBlock 20 = .ok (.iload 5, 2) := by decide +kernel
theorem dX1_nearestBlock_22 : decode cX1_nearestBlock 22 = .ok (.iload_n 2, 1) := by decide +kernel
theorem dX1_nearestBlock_23 : decode cX1_nearestBlock 23 = .ok (.if_icmp .ge 45, 3) := by decide +kernel
theorem dX1_nearestBlock_26 : decode cX1_nearestBlock 26 = .ok (.aload_n 0, 1) := by decide +kernel
theorem dX1_nearestBlock_27 : decode cX1_nearestBlock 27 = .ok (.iload_n 1, 1) := by decide +kernel
theorem dX1_nearestBlock_28 : decode cX1_nearestBlock 28 = .ok (.iload 5, 2) := by decide +kernel
theorem dX1_nearestBlock_30 : decode cX1_nearestBlock 30 = .ok (.invokevirtual 70, 3) := by decide +kernel
theorem dX1_nearestBlock_33 : decode cX1_nearestBlock 33 = .ok (.istore 6, 2) := by decide +kernel
theorem dX1_nearestBlock_35 : decode cX1_nearestBlock 35 = .ok (.iload 6, 2) := by decide +kernel
theorem dX1_nearestBlock_37 : decode cX1_nearestBlock 37 = .ok (.bipush (-6), 2) := by decide +kernel
theorem dX1_nearestBlock_39 : decode cX1_nearestBlock 39 = .ok (.if_icmp .eq 23, 3) := by decide +kernel
theorem dX1_nearestBlock_42 : decode cX1_nearestBlock 42 = .ok (.iload_n 3, 1) := by decide +kernel
theorem dX1_nearestBlock_43 : decode cX1_nearestBlock 43 = .ok (.bipush (-6), 2) := by decide +kernel
theorem dX1_nearestBlock_45 : decode cX1_nearestBlock 45 = .ok (.if_icmp .eq 10, 3) := by decide +kernel
theorem dX1_nearestBlock_48 : decode cX1_nearestBlock 48 = .ok (.iload 6, 2) := by decide +kernel
theorem dX1_nearestBlock_50 : decode cX1_nearestBlock 50 = .ok (.iload 4, 2) := by decide +kernel
theorem dX1_nearestBlock_52 : decode cX1_nearestBlock 52 = .ok (.if_icmp .ge 10, 3) := by decide +kernel
theorem dX1_nearestBlock_55 : decode cX1_nearestBlock 55 = .ok (.iload 5, 2) := by decide +kernel
theorem dX1_nearestBlock_57 : decode cX1_nearestBlock 57 = .ok (.istore_n 3, 1) := by decide +kernel
theorem dX1_nearestBlock_58 : decode cX1_nearestBlock 58 = .ok (.iload 6, 2) := by decide +kernel
theorem dX1_nearestBlock_60 : decode cX1_nearestBlock 60 = .ok (.istore 4, 2) := by decide +kernel
theorem dX1_nearestBlock_62 : decode cX1_nearestBlock 62 = .ok (.iinc 5 1, 3) := by decide +kernel
theorem dX1_nearestBlock_65 : decode cX1_nearestBlock 65 = .ok (.goto (-45), 3) := by decide +kernel
theorem dX1_nearestBlock_68 : decode cX1_nearestBlock 68 = .ok (.iload_n 3, 1) := by decide +kernel
theorem dX1_nearestBlock_69 : decode cX1_nearestBlock 69 = .ok (.ireturn, 1) := by decide +kernel
theorem dX1_fittingLength_0 : decode cX1_fittingLength 0 = .ok (.aload_n 0, 1) := by decide +kernel
theorem dX1_fittingLength_1 : decode cX1_fittingLength 1 = .ok (.getfield 9, 3) := by decide +kernel
theorem dX1_fittingLength_4 : decode cX1_fittingLength 4 = .ok (.iload_n 2, 1) := by decide +kernel
theorem dX1_fittingLength_5 : decode cX1_fittingLength 5 = .ok (.bipush 7, 2) := by decide +kernel
theorem dX1_fittingLength_7 : decode cX1_fittingLength 7 = .ok (.invokevirtual 21, 3) := by decide +kernel
theorem dX1_fittingLength_10 : decode cX1_fittingLength 10 = .ok (.ifCond .eq 6, 3) := by decide +kernel
theorem dX1_fittingLength_13 : decode cX1_fittingLength 13 = .ok (.bipush (-6), 2) := by decide +kernel
theorem dX1_fittingLength_15 : decode cX1_fittingLength 15 = .ok (.ireturn, 1) := by decide +kernel
theorem dX1_fittingLength_16 : decode cX1_fittingLength 16 = .ok (.aload_n 0, 1) := by decide +kernel
theorem dX1_fittingLength_17 : decode cX1_fittingLength 17 = .ok (.getfield 9, 3) := by decide +kernel
theorem dX1_fittingLength_20 : decode cX1_fittingLength 20 = .ok (.iload_n 2, 1) := by decide +kernel
theorem dX1_fittingLength_21 : decode cX1_fittingLength 21 = .ok (.iload_n 3, 1) := by decide +kernel
theorem dX1_fittingLength_22 : decode cX1_fittingLength 22 = .ok (.invokevirtual 21, 3) := by decide +kernel
theorem dX1_fittingLength_25 : decode cX1_fittingLength 25 = .ok (.aload_n 0, 1) := by decide +kernel
theorem dX1_fittingLength_26 : decode cX1_fittingLength 26 = .ok (.getfield 9, 3) := by decide +kernel
theorem dX1_fittingLength_29 : decode cX1_fittingLength 29 = .ok (.iconst 0, 1) := by decide +kernel
theorem dX1_fittingLength_30 : decode cX1_fittingLength 30 = .ok (.invokevirtual 15, 3) := by decide +kernel
theorem dX1_fittingLength_33 : decode cX1_fittingLength 33 = .ok (.isub, 1) := by decide +kernel
theorem dX1_fittingLength_34 : decode cX1_fittingLength 34 = .ok (.iconst 1, 1) := by decide +kernel
theorem dX1_fittingLength_35 : decode cX1_fittingLength 35 = .ok (.isub, 1) := by decide +kernel
theorem dX1_fittingLength_36 : decode cX1_fittingLength 36 = .ok (.istore 4, 2) := by decide +kernel
theorem dX1_fittingLength_38 : decode cX1_fittingLength 38 = .ok (.aload_n 0, 1) := by decide +kernel
theorem dX1_fittingLength_39 : decode cX1_fittingLength 39 = .ok (.getfield 9, 3) := by decide +kernel
theorem dX1_fittingLength_42 : decode cX1_fittingLength 42 = .ok (.iload_n 2, 1) := by decide +kernel
theorem dX1_fittingLength_43 : decode cX1_fittingLength 43 = .ok (.iconst 0, 1) := by decide +kernel
theorem dX1_fittingLength_44 : decode cX1_fittingLength 44 = .ok (.invokevirtual 21, 3) := by decide +kernel
theorem dX1_fittingLength_47 : decode cX1_fittingLength 47 = .ok (.istore 5, 2) := by decide +kernel
theorem dX1_fittingLength_49 : decode cX1_fittingLength 49 = .ok (.aload_n 0, 1) := by decide +kernel
theorem dX1_fittingLength_50 : decode cX1_fittingLength 50 = .ok (.getfield 9, 3) := by decide +kernel
theorem dX1_fittingLength_53 : decode cX1_fittingLength 53 = .ok (.iload_n 2, 1) := by decide +kernel
theorem dX1_fittingLength_54 : decode cX1_fittingLength 54 = .ok (.iconst 1, 1) := by decide +kernel
theorem dX1_fittingLength_55 : decode cX1_fittingLength 55 = .ok (.invokevirtual 21, 3) := by decide +kernel
theorem dX1_fittingLength_58 : decode cX1_fittingLength 58 = .ok (.istore 6, 2) := by decide +kernel
theorem dX1_fittingLength_60 : decode cX1_fittingLength 60 = .ok (.aload_n 0, 1) := by decide +kernel
theorem dX1_fittingLength_61 : decode cX1_fittingLength 61 = .ok (.getfield 9, 3) := by decide +kernel
theorem dX1_fittingLength_64 : decode cX1_fittingLength 64 = .ok (.iload_n 2, 1) := by decide +kernel
theorem dX1_fittingLength_65 : decode cX1_fittingLength 65 = .ok (.iconst 2, 1) := by decide +kernel
theorem dX1_fittingLength_66 : decode cX1_fittingLength 66 = .ok (.invokevirtual 21, 3) := by decide +kernel
theorem dX1_fittingLength_69 : decode cX1_fittingLength 69 = .ok (.istore 7, 2) := by decide +kernel
theorem dX1_fittingLength_71 : decode cX1_fittingLength 71 = .ok (.iconst 1, 1) := by decide +kernel
theorem dX1_fittingLength_72 : decode cX1_fittingLength 72 = .ok (.istore 8, 2) := by decide +kernel
theorem dX1_fittingLength_74 : decode cX1_fittingLength 74 = .ok (.iload 8, 2) := by decide +kernel
theorem dX1_fittingLength_76 : decode cX1_fittingLength 76 = .ok (.iload 4, 2) := by decide +kernel
theorem dX1_fittingLength_78 : decode cX1_fittingLength 78 = .ok (.if_icmp .gt 61, 3) := by decide +kernel
theorem dX1_fittingLength_81 : decode cX1_fittingLength 81 = .ok (.aload_n 0, 1) := by decide +kernel
theorem dX1_fittingLength_82 : decode cX1_fittingLength 82 = .ok (.iload_n 1, 1) := by decide +kernel
theorem dX1_fittingLength_83 : decode cX1_fittingLength 83 = .ok (.iload_n 3, 1) := by decide +kernel
theorem dX1_fittingLength_84 : decode cX1_fittingLength 84 = .ok (.ifCond .ne 8, 3) := by decide +kernel
theorem dX1_fittingLength_87 : decode cX1_fittingLength 87 = .ok (.iload 8, 2) := by decide +kernel
theorem dX1_fittingLength_89 : decode cX1_fittingLength 89 = .ok (.goto 5, 3) := by decide +kernel
theorem dX1_fittingLength_92 : decode cX1_fittingLength 92 = .ok (.iload 5, 2) := by decide +kernel
theorem dX1_fittingLength_94 : decode cX1_fittingLength 94 = .ok (.iload_n 3, 1) := by decide +kernel
theorem dX1_fittingLength_95 : decode cX1_fittingLength 95 = .ok (.iconst 1, 1) := by decide +kernel
theorem dX1_fittingLength_96 : decode cX1_fittingLength 96 = .ok (.if_icmp .ne 8, 3) := by decide +kernel
theorem dX1_fittingLength_99 : decode cX1_fittingLength 99 = .ok (.iload 8, 2) := by decide +kernel
theorem dX1_fittingLength_101 : decode cX1_fittingLength 101 = .ok (.goto 5, 3) := by decide +kernel
theorem dX1_fittingLength_104 : decode cX1_fittingLength 104 = .ok (.iload 6, 2) := by decide +kernel
theorem dX1_fittingLength_106 : decode cX1_fittingLength 106 = .ok (.iload_n 3, 1) := by decide +kernel
theorem dX1_fittingLength_107 : decode cX1_fittingLength 107 = .ok (.iconst 2, 1) := by decide +kernel
theorem dX1_fittingLength_108 : decode cX1_fittingLength 108 = .ok (.if_icmp .ne 8, 3) := by decide +kernel
theorem dX1_fittingLength_111 : decode cX1_fittingLength 111 = .ok (.iload 8, 2) := by decide +kernel
theorem dX1_fittingLength_113 : decode cX1_fittingLength 113 = .ok (.goto 5, 3) := by decide +kernel
theorem dX1_fittingLength_116 : decode cX1_fittingLength 116 = .ok (.iload 7, 2) := by decide +kernel
theorem dX1_fittingLength_118 : decode cX1_fittingLength 118 = .ok (.invokevirtual 66, 3) := by decide +kernel
theorem dX1_fittingLength_121 : decode cX1_fittingLength 121 = .ok (.istore 9, 2) := by decide +kernel
theorem dX1_fittingLength_123 : decode cX1_fittingLength 123 = .ok (.iload 9, 2) := by decide +kernel
theorem dX1_fittingLength_125 : decode cX1_fittingLength 125 = .ok (.bipush (-6), 2) := by decide +kernel
theorem dX1_fittingLength_127 : decode cX1_fittingLength 127 = .ok (.if_icmp .eq 6, 3) := by decide +kernel
theorem dX1_fittingLength_130 : decode cX1_fittingLength 130 = .ok (.iload 8, 2) := by decide +kernel
theorem dX1_fittingLength_132 : decode cX1_fittingLength 132 = .ok (.ireturn, 1) := by decide +kernel
theorem dX1_fittingLength_133 : decode cX1_fittingLength 133 = .ok (.iinc 8 1, 3) := by decide +kernel
theorem dX1_fittingLength_136 : decode cX1_fittingLength 136 = .ok (.goto (-62), 3) := by decide +kernel
theorem dX1_fittingLength_139 : decode cX1_fittingLength 139 = .ok (.bipush (-6), 2) := by decide +kernel
theorem dX1_fittingLength_141 : decode cX1_fittingLength 141 = .ok (.ireturn, 1) := by decide +kernel
theorem dX1_blocksOn_0 : decode cX1_blocksOn 0 = .ok (.iconst 0, 1) := by decide +kernel
theorem dX1_blocksOn_1 : decode cX1_blocksOn 1 = .ok (.istore_n 2, 1) := by decide +kernel
theorem dX1_blocksOn_2 : decode cX1_blocksOn 2 = .ok (.iconst 0, 1) := by decide +kernel
theorem dX1_blocksOn_3 : decode cX1_blocksOn 3 = .ok (.istore_n 3, 1) := by decide +kernel
theorem dX1_blocksOn_4 : decode cX1_blocksOn 4 = .ok (.iload_n 3, 1) := by decide +kernel
theorem dX1_blocksOn_5 : decode cX1_blocksOn 5 = .ok (.iconst 5, 1) := by decide +kernel
theorem dX1_blocksOn_6 : decode cX1_blocksOn 6 = .ok (.if_icmp .ge 26, 3) := by decide +kernel
theorem dX1_blocksOn_9 : decode cX1_blocksOn 9 = .ok (.iload_n 2, 1) := by decide +kernel
theorem dX1_blocksOn_10 : decode cX1_blocksOn 10 = .ok (.aload_n 0, 1) := by decide +kernel
theorem dX1_blocksOn_11 : decode cX1_blocksOn 11 = .ok (.getfield 9, 3) := by decide +kernel
theorem dX1_blocksOn_14 : decode cX1_blocksOn 14 = .ok (.bipush 9, 2) := by decide +kernel
theorem dX1_blocksOn_16 : decode cX1_blocksOn 16 = .ok (.iconst 5, 1) := by decide +kernel
theorem dX1_blocksOn_17 : decode cX1_blocksOn 17 = .ok (.iload_n 1, 1) := by decide +kernel
theorem dX1_blocksOn_18 : decode cX1_blocksOn 18 = .ok (.imul, 1) := by decide +kernel
theorem dX1_blocksOn_19 : decode cX1_blocksOn 19 = .ok (.iload_n 3, 1) := by decide +kernel
theorem dX1_blocksOn_20 : decode cX1_blocksOn 20 = .ok (.iadd, 1) := by decide +kernel
theorem dX1_blocksOn_21 : decode cX1_blocksOn 21 = .ok (.invokevirtual 25, 3) := by decide +kernel
theorem dX1_blocksOn_24 : decode cX1_blocksOn 24 = .ok (.ior, 1) := by decide +kernel
theorem dX1_blocksOn_25 : decode cX1_blocksOn 25 = .ok (.istore_n 2, 1) := by decide +kernel
theorem dX1_blocksOn_26 : decode cX1_blocksOn 26 = .ok (.iinc 3 1, 3) := by decide +kernel
theorem dX1_blocksOn_29 : decode cX1_blocksOn 29 = .ok (.goto (-25), 3) := by decide +kernel
theorem dX1_blocksOn_32 : decode cX1_blocksOn 32 = .ok (.iload_n 2, 1) := by decide +kernel
theorem dX1_blocksOn_33 : decode cX1_blocksOn 33 = .ok (.ireturn, 1) := by decide +kernel
theorem dX1_isFree_0 : decode cX1_isFree 0 = .ok (.aload_n 0, 1) := by decide +kernel
theorem dX1_isFree_1 : decode cX1_isFree 1 = .ok (.getfield 9, 3) := by decide +kernel
theorem dX1_isFree_4 : decode cX1_isFree 4 = .ok (.bipush 9, 2) := by decide +kernel
theorem dX1_isFree_6 : decode cX1_isFree 6 = .ok (.iconst 5, 1) := by decide +kernel
theorem dX1_isFree_7 : decode cX1_isFree 7 = .ok (.iload_n 1, 1) := by decide +kernel
theorem dX1_isFree_8 : decode cX1_isFree 8 = .ok (.imul, 1) := by decide +kernel
theorem dX1_isFree_9 : decode cX1_isFree 9 = .ok (.iload_n 2, 1) := by decide +kernel
theorem dX1_isFree_10 : decode cX1_isFree 10 = .ok (.iadd, 1) := by decide +kernel
theorem dX1_isFree_11 : decode cX1_isFree 11 = .ok (.invokevirtual 25, 3) := by decide +kernel
theorem dX1_isFree_14 : decode cX1_isFree 14 = .ok (.ifCond .ne 7, 3) := by decide +kernel
theorem dX1_isFree_17 : decode cX1_isFree 17 = .ok (.iconst 1, 1) := by decide +kernel
theorem dX1_isFree_18 : decode cX1_isFree 18 = .ok (.goto 4, 3) := by decide +kernel
theorem dX1_isFree_21 : decode cX1_isFree 21 = .ok (.iconst 0, 1) := by decide +kernel
theorem dX1_isFree_22 : decode cX1_isFree 22 = .ok (.ireturn, 1) := by decide +kernel
theorem dX1_loadOf_0 : decode cX1_loadOf 0 = .ok (.aload_n 0, 1) := by decide +kernel
theorem dX1_loadOf_1 : decode cX1_loadOf 1 = .ok (.aload_n 0, 1) := by decide +kernel
theorem dX1_loadOf_2 : decode cX1_loadOf 2 = .ok (.iload_n 1, 1) := by decide +kernel
theorem dX1_loadOf_3 : decode cX1_loadOf 3 = .ok (.invokevirtual 73, 3) := by decide +kernel
theorem dX1_loadOf_6 : decode cX1_loadOf 6 = .ok (.invokevirtual 32, 3) := by decide +kernel
theorem dX1_loadOf_9 : decode cX1_loadOf 9 = .ok (.ireturn, 1) := by decide +kernel
theorem dX1_weightAt_0 : decode cX1_weightAt 0 = .ok (.aload_n 0, 1) := by decide +kernel
theorem dX1_weightAt_1 : decode cX1_weightAt 1 = .ok (.getfield 9, 3) := by decide +kernel
theorem dX1_weightAt_4 : decode cX1_weightAt 4 = .ok (.bipush 6, 2) := by decide +kernel
theorem dX1_weightAt_6 : decode cX1_weightAt 6 = .ok (.invokevirtual 15, 3) := by decide +kernel
theorem dX1_weightAt_9 : decode cX1_weightAt 9 = .ok (.istore 5, 2) := by decide +kernel
theorem dX1_weightAt_11 : decode cX1_weightAt 11 = .ok (.iload_n 2, 1) := by decide +kernel
theorem dX1_weightAt_12 : decode cX1_weightAt 12 = .ok (.iload_n 3, 1) := by decide +kernel
theorem dX1_weightAt_13 : decode cX1_weightAt 13 = .ok (.if_icmp .ne 8, 3) := by decide +kernel
theorem dX1_weightAt_16 : decode cX1_weightAt 16 = .ok (.iload 4, 2) := by decide +kernel
theorem dX1_weightAt_18 : decode cX1_weightAt 18 = .ok (.goto 4, 3) := by decide +kernel
theorem dX1_weightAt_21 : decode cX1_weightAt 21 = .ok (.iconst 0, 1) := by decide +kernel
theorem dX1_weightAt_22 : decode cX1_weightAt 22 = .ok (.istore 6, 2) := by decide +kernel
theorem dX1_weightAt_24 : decode cX1_weightAt 24 = .ok (.iconst 0, 1) := by decide +kernel
theorem dX1_weightAt_25 : decode cX1_weightAt 25 = .ok (.istore 7, 2) := by decide +kernel
theorem dX1_weightAt_27 : decode cX1_weightAt 27 = .ok (.iload 7, 2) := by decide +kernel
theorem dX1_weightAt_29 : decode cX1_weightAt 29 = .ok (.iload 5, 2) := by decide +kernel
theorem dX1_weightAt_31 : decode cX1_weightAt 31 = .ok (.if_icmp .ge 43, 3) := by decide +kernel
theorem dX1_weightAt_34 : decode cX1_weightAt 34 = .ok (.aload_n 0, 1) := by decide +kernel
theorem dX1_weightAt_35 : decode cX1_weightAt 35 = .ok (.getfield 9, 3) := by decide +kernel
theorem dX1_weightAt_38 : decode cX1_weightAt 38 = .ok (.iload 7, 2) := by decide +kernel
theorem dX1_weightAt_40 : decode cX1_weightAt 40 = .ok (.bipush 9, 2) := by decide +kernel
theorem dX1_weightAt_42 : decode cX1_weightAt 42 = .ok (.invokevirtual 21, 3) := by decide +kernel
theorem dX1_weightAt_45 : decode cX1_weightAt 45 = .ok (.iconst 5, 1) := by decide +kernel
theorem dX1_weightAt_46 : decode cX1_weightAt 46 = .ok (.iload_n 1, 1) := by decide +kernel
theorem dX1_weightAt_47 : decode cX1_weightAt 47 = .ok (.imul, 1) := by decide +kernel
theorem dX1_weightAt_48 : decode cX1_weightAt 48 = .ok (.iload_n 2, 1) := by decide +kernel
theorem dX1_weightAt_49 : decode cX1_weightAt 49 = .ok (.iadd, 1) := by decide +kernel
theorem dX1_weightAt_50 : decode cX1_weightAt 50 = .ok (.if_icmp .ne 18, 3) := by decide +kernel
theorem dX1_weightAt_53 : decode cX1_weightAt 53 = .ok (.iload 6, 2) := by decide +kernel
theorem dX1_weightAt_55 : decode cX1_weightAt 55 = .ok (.aload_n 0, 1) := by decide +kernel
theorem dX1_weightAt_56 : decode cX1_weightAt 56 = .ok (.getfield 9, 3) := by decide +kernel
theorem dX1_weightAt_59 : decode cX1_weightAt 59 = .ok (.iload 7, 2) := by decide +kernel
theorem dX1_weightAt_61 : decode cX1_weightAt 61 = .ok (.iconst 4, 1) := by decide +kernel
theorem dX1_weightAt_62 : decode cX1_weightAt 62 = .ok (.invokevirtual 21, 3) := by decide +kernel
theorem dX1_weightAt_65 : decode cX1_weightAt 65 = .ok (.iadd, 1) := by decide +kernel
theorem dX1_weightAt_66 : decode cX1_weightAt 66 = .ok (.istore 6, 2) := by decide +kernel
theorem dX1_weightAt_68 : decode cX1_weightAt 68 = .ok (.iinc 7 1, 3) := by decide +kernel
theorem dX1_weightAt_71 : decode cX1_weightAt 71 = .ok (.goto (-44), 3) := by decide +kernel
theorem dX1_weightAt_74 : decode cX1_weightAt 74 = .ok (.iload 6, 2) := by decide +kernel
theorem dX1_weightAt_76 : decode cX1_weightAt 76 = .ok (.i2f, 1) := by decide +kernel
theorem dX1_weightAt_77 : decode cX1_weightAt 77 = .ok (.freturn, 1) := by decide +kernel
theorem dX1_front_0 : decode cX1_front 0 = .ok (.fconst 0, 1) := by decide +kernel
theorem dX1_front_1 : decode cX1_front 1 = .ok (.fstore 4, 2) := by decide +kernel
theorem dX1_front_3 : decode cX1_front 3 = .ok (.iconst 0, 1) := by decide +kernel
theorem dX1_front_4 : decode cX1_front 4 = .ok (.istore 5, 2) := by decide +kernel
theorem dX1_front_6 : decode cX1_front 6 = .ok (.iload 5, 2) := by decide +kernel
theorem dX1_front_8 : decode cX1_front 8 = .ok (.iconst 5, 1) := by decide +kernel
theorem dX1_front_9 : decode cX1_front 9 = .ok (.if_icmp .ge 32, 3) := by decide +kernel
theorem dX1_front_12 : decode cX1_front 12 = .ok (.fload 4, 2) := by decide +kernel
theorem dX1_front_14 : decode cX1_front 14 = .ok (.aload_n 0, 1) := by decide +kernel
theorem dX1_front_15 : decode cX1_front 15 = .ok (.iload_n 1, 1) := by decide +kernel
theorem dX1_front_16 : decode cX1_front 16 = .ok (.iload 5, 2) := by decide +kernel
theorem dX1_front_18 : decode cX1_front 18 = .ok (.iload_n 2, 1) := by decide +kernel
theorem dX1_front_19 : decode cX1_front 19 = .ok (.iload_n 3, 1) := by decide +kernel
theorem dX1_front_20 : decode cX1_front 20 = .ok (.invokevirtual 76, 3) := by decide +kernel
theorem dX1_front_23 : decode cX1_front 23 = .ok (.iconst 4, 1) := by decide +kernel
theorem dX1_front_24 : decode cX1_front 24 = .ok (.iload 5, 2) := by decide +kernel
theorem dX1_front_26 : decode cX1_front 26 = .ok (.isub, 1) := by decide +kernel
theorem dX1_front_27 : decode cX1_front 27 = .ok (.i2f, 1) := by decide +kernel
theorem dX1_front_28 : decode cX1_front 28 = .ok (.fmul, 1) := by decide +kernel
theorem dX1_front_29 : decode cX1_front 29 = .ok (.ldc 80, 2) := by decide +kernel
theorem dX1_front_31 : decode cX1_front 31 = .ok (.fdiv, 1) := by decide +kernel
theorem dX1_front_32 : decode cX1_front 32 = .ok (.fadd, 1) := by decide +kernel
theorem dX1_front_33 : decode cX1_front 33 = .ok (.fstore 4, 2) := by decide +kernel
theorem dX1_front_35 : decode cX1_front 35 = .ok (.iinc 5 1, 3) := by decide +kernel
theorem dX1_front_38 : decode cX1_front 38 = .ok (.goto (-32), 3) := by decide +kernel
theorem dX1_front_41 : decode cX1_front 41 = .ok (.fload 4, 2) := by decide +kernel
theorem dX1_front_43 : decode cX1_front 43 = .ok (.freturn, 1) := by decide +kernel
theorem dX1_rear_0 : decode cX1_rear 0 = .ok (.fconst 0, 1) := by decide +kernel
theorem dX1_rear_1 : decode cX1_rear 1 = .ok (.fstore 4, 2) := by decide +kernel
theorem dX1_rear_3 : decode cX1_rear 3 = .ok (.iconst 0, 1) := by decide +kernel
theorem dX1_rear_4 : decode cX1_rear 4 = .ok (.istore 5, 2) := by decide +kernel
theorem dX1_rear_6 : decode cX1_rear 6 = .ok (.iload 5, 2) := by decide +kernel
theorem dX1_rear_8 : decode cX1_rear 8 = .ok (.iconst 5, 1) := by decide +kernel
theorem dX1_rear_9 : decode cX1_rear 9 = .ok (.if_icmp .ge 30, 3) := by decide +kernel
theorem dX1_rear_12 : decode cX1_rear 12 = .ok (.fload 4, 2) := by decide +kernel
theorem dX1_rear_14 : decode cX1_rear 14 = .ok (.aload_n 0, 1) := by decide +kernel
theorem dX1_rear_15 : decode cX1_rear 15 = .ok (.iload_n 1, 1) := by decide +kernel
theorem dX1_rear_16 : decode cX1_rear 16 = .ok (.iload 5, 2) := by decide +kernel
theorem dX1_rear_18 : decode cX1_rear 18 = .ok (.iload_n 2, 1) := by decide +kernel
theorem dX1_rear_19 : decode cX1_rear 19 = .ok (.iload_n 3, 1) := by decide +kernel
theorem dX1_rear_20 : decode cX1_rear 20 = .ok (.invokevirtual 76, 3) := by decide +kernel
theorem dX1_rear_23 : decode cX1_rear 23 = .ok (.iload 5, 2) := by decide +kernel
theorem dX1_rear_25 : decode cX1_rear 25 = .ok (.i2f, 1) := by decide +kernel
theorem dX1_rear_26 : decode cX1_rear 26 = .ok (.fmul, 1) := by decide +kernel
theorem dX1_rear_27 : decode cX1_rear 27 = .ok (.ldc 80, 2) := by decide +kernel
theorem dX1_rear_29 : decode cX1_rear 29 = .ok (.fdiv, 1) := by decide +kernel
theorem dX1_rear_30 : decode cX1_rear 30 = .ok (.fadd, 1) := by decide +kernel
theorem dX1_rear_31 : decode cX1_rear 31 = .ok (.fstore 4, 2) := by decide +kernel
theorem dX1_rear_33 : decode cX1_rear 33 = .ok (.iinc 5 1, 3) := by decide +kernel
theorem dX1_rear_36 : decode cX1_rear 36 = .ok (.goto (-30), 3) := by decide +kernel
theorem dX1_rear_39 : decode cX1_rear 39 = .ok (.fload 4, 2) := by decide +kernel
theorem dX1_rear_41 : decode cX1_rear 41 = .ok (.freturn, 1) := by decide +kernel
theorem dX1_reasonToStay_0 : decode cX1_reasonToStay 0 = .ok (.aload_n 0, 1) := by decide +kernel
theorem dX1_reasonToStay_1 : decode cX1_reasonToStay 1 = .ok (.iload_n 1, 1) := by decide +kernel
theorem dX1_reasonToStay_2 : decode cX1_reasonToStay 2 = .ok (.invokevirtual 73, 3) := by decide +kernel
theorem dX1_reasonToStay_5 : decode cX1_reasonToStay 5 = .ok (.istore_n 2, 1) := by decide +kernel
theorem dX1_reasonToStay_6 : decode cX1_reasonToStay 6 = .ok (.iload_n 2, 1) := by decide +kernel
theorem dX1_reasonToStay_7 : decode cX1_reasonToStay 7 = .ok (.ifCond .ne 5, 3) := by decide +kernel
theorem dX1_reasonToStay_10 : decode cX1_reasonToStay 10 = .ok (.iconst 1, 1) := by decide +kernel
theorem dX1_reasonToStay_11 : decode cX1_reasonToStay 11 = .ok (.ireturn, 1) := by decide +kernel
theorem dX1_reasonToStay_12 : decode cX1_reasonToStay 12 = .ok (.iload_n 2, 1) := by decide +kernel
theorem dX1_reasonToStay_13 : decode cX1_reasonToStay 13 = .ok (.aload_n 0, 1) := by decide +kernel
theorem dX1_reasonToStay_14 : decode cX1_reasonToStay 14 = .ok (.getfield 9, 3) := by decide +kernel
theorem dX1_reasonToStay_17 : decode cX1_reasonToStay 17 = .ok (.bipush 7, 2) := by decide +kernel
theorem dX1_reasonToStay_19 : decode cX1_reasonToStay 19 = .ok (.iconst 1, 1) := by decide +kernel
theorem dX1_reasonToStay_20 : decode cX1_reasonToStay 20 = .ok (.invokevirtual 25, 3) := by decide +kernel
theorem dX1_reasonToStay_23 : decode cX1_reasonToStay 23 = .ok (.iand, 1) := by decide +kernel
theorem dX1_reasonToStay_24 : decode cX1_reasonToStay 24 = .ok (.ifCond .eq 5, 3) := by decide +kernel
theorem dX1_reasonToStay_27 : decode cX1_reasonToStay 27 = .ok (.iconst 2, 1) := by decide +kernel
theorem dX1_reasonToStay_28 : decode cX1_reasonToStay 28 = .ok (.ireturn, 1) := by decide +kernel
theorem dX1_reasonToStay_29 : decode cX1_reasonToStay 29 = .ok (.aload_n 0, 1) := by decide +kernel
theorem dX1_reasonToStay_30 : decode cX1_reasonToStay 30 = .ok (.iload_n 2, 1) := by decide +kernel
theorem dX1_reasonToStay_31 : decode cX1_reasonToStay 31 = .ok (.invokevirtual 32, 3) := by decide +kernel
theorem dX1_reasonToStay_34 : decode cX1_reasonToStay 34 = .ok (.aload_n 0, 1) := by decide +kernel
theorem dX1_reasonToStay_35 : decode cX1_reasonToStay 35 = .ok (.getfield 9, 3) := by decide +kernel
theorem dX1_reasonToStay_38 : decode cX1_reasonToStay 38 = .ok (.iload_n 1, 1) := by decide +kernel
theorem dX1_reasonToStay_39 : decode cX1_reasonToStay 39 = .ok (.iconst 2, 1) := by decide +kernel
theorem dX1_reasonToStay_40 : decode cX1_reasonToStay 40 = .ok (.invokevirtual 81, 3) := by decide +kernel
theorem dX1_reasonToStay_43 : decode cX1_reasonToStay 43 = .ok (.if_icmp .le 5, 3) := by decide +kernel
theorem dX1_reasonToStay_46 : decode cX1_reasonToStay 46 = .ok (.iconst 3, 1) := by decide +kernel
theorem dX1_reasonToStay_47 : decode cX1_reasonToStay 47 = .ok (.ireturn, 1) := by decide +kernel
theorem dX1_reasonToStay_48 : decode cX1_reasonToStay 48 = .ok (.aload_n 0, 1) := by decide +kernel
theorem dX1_reasonToStay_49 : decode cX1_reasonToStay 49 = .ok (.iload_n 1, 1) := by decide +kernel
theorem dX1_reasonToStay_50 : decode cX1_reasonToStay 50 = .ok (.bipush (-6), 2) := by decide +kernel
theorem dX1_reasonToStay_52 : decode cX1_reasonToStay 52 = .ok (.iconst 0, 1) := by decide +kernel
theorem dX1_reasonToStay_53 : decode cX1_reasonToStay 53 = .ok (.invokevirtual 84, 3) := by decide +kernel
theorem dX1_reasonToStay_56 : decode cX1_reasonToStay 56 = .ok (.aload_n 0, 1) := by decide +kernel
theorem dX1_reasonToStay_57 : decode cX1_reasonToStay 57 = .ok (.getfield 9, 3) := by decide +kernel
theorem dX1_reasonToStay_60 : decode cX1_reasonToStay 60 = .ok (.iload_n 1, 1) := by decide +kernel
theorem dX1_reasonToStay_61 : decode cX1_reasonToStay 61 = .ok (.iconst 0, 1) := by decide +kernel
theorem dX1_reasonToStay_62 : decode cX1_reasonToStay 62 = .ok (.invokevirtual 81, 3) := by decide +kernel
theorem dX1_reasonToStay_65 : decode cX1_reasonToStay 65 = .ok (.i2f, 1) := by decide +kernel
theorem dX1_reasonToStay_66 : decode cX1_reasonToStay 66 = .ok (.fcmp .l, 1) := by decide +kernel
theorem dX1_reasonToStay_67 : decode cX1_reasonToStay 67 = .ok (.ifCond .le 5, 3) := by decide +kernel
theorem dX1_reasonToStay_70 : decode cX1_reasonToStay 70 = .ok (.iconst 4, 1) := by decide +kernel
theorem dX1_reasonToStay_71 : decode cX1_reasonToStay 71 = .ok (.ireturn, 1) := by decide +kernel
theorem dX1_reasonToStay_72 : decode cX1_reasonToStay 72 = .ok (.aload_n 0, 1) := by decide +kernel
theorem dX1_reasonToStay_73 : decode cX1_reasonToStay 73 = .ok (.iload_n 1, 1) := by decide +kernel
theorem dX1_reasonToStay_74 : decode cX1_reasonToStay 74 = .ok (.bipush (-6), 2) := by decide +kernel
theorem dX1_reasonToStay_76 : decode cX1_reasonToStay 76 = .ok (.iconst 0, 1) := by decide +kernel
theorem dX1_reasonToStay_77 : decode cX1_reasonToStay 77 = .ok (.invokevirtual 88, 3) := by decide +kernel
theorem dX1_reasonToStay_80 : decode cX1_reasonToStay 80 = .ok (.aload_n 0, 1) := by decide +kernel
theorem dX1_reasonToStay_81 : decode cX1_reasonToStay 81 = .ok (.getfield 9, 3) := by decide +kernel
theorem dX1_reasonToStay_84 : decode cX1_reasonToStay 84 = .ok (.iload_n 1, 1) := by decide +kernel
theorem dX1_reasonToStay_85 : decode cX1_reasonToStay 85 = .ok (.iconst 1, 1) := by decide +kernel
theorem dX1_reasonToStay_86 : decode cX1_reasonToStay 86 = .ok (.invokevirtual 81, 3) := by decide +kernel
theorem dX1_reasonToStay_89 : decode cX1_reasonToStay 89 = .ok (.i2f, 1) := by decide +kernel
theorem dX1_reasonToStay_90 : decode cX1_reasonToStay 90 = .ok (.fcmp .l, 1) := by decide +kernel
theorem dX1_reasonToStay_91 : decode cX1_reasonToStay 91 = .ok (.ifCond .le 7, 3) := by decide +kernel
theorem dX1_reasonToStay_94 : decode cX1_reasonToStay 94 = .ok (.iconst 5, 1) := by decide +kernel
theorem dX1_reasonToStay_95 : decode cX1_reasonToStay 95 = .ok (.goto 4, 3) := by decide +kernel
theorem dX1_reasonToStay_98 : decode cX1_reasonToStay 98 = .ok (.iconst 0, 1) := by decide +kernel
theorem dX1_reasonToStay_99 : decode cX1_reasonToStay 99 = .ok (.ireturn, 1) := by decide +kernel
theorem dX1_greaterShare_0 : decode cX1_greaterShare 0 = .ok (.aload_n 0, 1) := by decide +kernel
theorem dX1_greaterShare_1 : decode cX1_greaterShare 1 = .ok (.iload_n 1, 1) := by decide +kernel
theorem dX1_greaterShare_2 : decode cX1_greaterShare 2 = .ok (.iload_n 2, 1) := by decide +kernel
theorem dX1_greaterShare_3 : decode cX1_greaterShare 3 = .ok (.iload_n 3, 1) := by decide +kernel
theorem dX1_greaterShare_4 : decode cX1_greaterShare 4 = .ok (.invokevirtual 84, 3) := by decide +kernel
theorem dX1_greaterShare_7 : decode cX1_greaterShare 7 = .ok (.aload_n 0, 1) := by decide +kernel
theorem dX1_greaterShare_8 : decode cX1_greaterShare 8 = .ok (.getfield 9, 3) := by decide +kernel
theorem dX1_greaterShare_11 : decode cX1_greaterShare 11 = .ok (.iload_n 1, 1) := by decide +kernel
theorem dX1_greaterShare_12 : decode cX1_greaterShare 12 = .ok (.iconst 0, 1) := by decide +kernel
theorem dX1_greaterShare_13 : decode cX1_greaterShare 13 = .ok (.invokevirtual 81, 3) := by decide +kernel
theorem dX1_greaterShare_16 : decode cX1_greaterShare 16 = .ok (.invokestatic 91, 3) := by decide +kernel
theorem dX1_greaterShare_19 : decode cX1_greaterShare 19 = .ok (.fstore 4, 2) := by decide +kernel
theorem dX1_greaterShare_21 : decode cX1_greaterShare 21 = .ok (.aload_n 0, 1) := by decide +kernel
theorem dX1_greaterShare_22 : decode cX1_greaterShare 22 = .ok (.iload_n 1, 1) := by decide +kernel
theorem dX1_greaterShare_23 : decode cX1_greaterShare 23 = .ok (.iload_n 2, 1) := by decide +kernel
theorem dX1_greaterShare_24 : decode cX1_greaterShare 24 = .ok (.iload_n 3, 1) := by decide +kernel
theorem dX1_greaterShare_25 : decode cX1_greaterShare 25 = .ok (.invokevirtual 88, 3) := by decide +kernel
theorem dX1_greaterShare_28 : decode cX1_greaterShare 28 = .ok (.aload_n 0, 1) := by decide +kernel
theorem dX1_greaterShare_29 : decode cX1_greaterShare 29 = .ok (.getfield 9, 3) := by decide +kernel
theorem dX1_greaterShare_32 : decode cX1_greaterShare 32 = .ok (.iload_n 1, 1) := by decide +kernel
theorem dX1_greaterShare_33 : decode cX1_greaterShare 33 = .ok (.iconst 1, 1) := by decide +kernel
theorem dX1_greaterShare_34 : decode cX1_greaterShare 34 = .ok (.invokevirtual 81, 3) := by decide +kernel
theorem dX1_greaterShare_37 : decode cX1_greaterShare 37 = .ok (.invokestatic 91, 3) := by decide +kernel
theorem dX1_greaterShare_40 : decode cX1_greaterShare 40 = .ok (.fstore 5, 2) := by decide +kernel
theorem dX1_greaterShare_42 : decode cX1_greaterShare 42 = .ok (.fload 4, 2) := by decide +kernel
theorem dX1_greaterShare_44 : decode cX1_greaterShare 44 = .ok (.fload 5, 2) := by decide +kernel
theorem dX1_greaterShare_46 : decode cX1_greaterShare 46 = .ok (.fcmp .l, 1) := by decide +kernel
theorem dX1_greaterShare_47 : decode cX1_greaterShare 47 = .ok (.ifCond .lt 8, 3) := by decide +kernel
theorem dX1_greaterShare_50 : decode cX1_greaterShare 50 = .ok (.fload 4, 2) := by decide +kernel
theorem dX1_greaterShare_52 : decode cX1_greaterShare 52 = .ok (.goto 5, 3) := by decide +kernel
theorem dX1_greaterShare_55 : decode cX1_greaterShare 55 = .ok (.fload 5, 2) := by decide +kernel
theorem dX1_greaterShare_57 : decode cX1_greaterShare 57 = .ok (.freturn, 1) := by decide +kernel
theorem dX1_shareOf_0 : decode cX1_shareOf 0 = .ok (.iload_n 1, 1) := by decide +kernel
theorem dX1_shareOf_1 : decode cX1_shareOf 1 = .ok (.ifCond .le 10, 3) := by decide +kernel
theorem dX1_shareOf_4 : decode cX1_shareOf 4 = .ok (.fload_n 0, 1) := by decide +kernel
theorem dX1_shareOf_5 : decode cX1_shareOf 5 = .ok (.iload_n 1, 1) := by decide +kernel
theorem dX1_shareOf_6 : decode cX1_shareOf 6 = .ok (.i2f, 1) := by decide +kernel
theorem dX1_shareOf_7 : decode cX1_shareOf 7 = .ok (.fdiv, 1) := by decide +kernel
theorem dX1_shareOf_8 : decode cX1_shareOf 8 = .ok (.goto 4, 3) := by decide +kernel
theorem dX1_shareOf_11 : decode cX1_shareOf 11 = .ok (.fconst 0, 1) := by decide +kernel
theorem dX1_shareOf_12 : decode cX1_shareOf 12 = .ok (.freturn, 1) := by decide +kernel
theorem dX1_easiestPlace_0 : decode cX1_easiestPlace 0 = .ok (.aload_n 0, 1) := by decide +kernel
theorem dX1_easiestPlace_1 : decode cX1_easiestPlace 1 = .ok (.getfield 9, 3) := by decide +kernel
theorem dX1_easiestPlace_4 : decode cX1_easiestPlace 4 = .ok (.iload_n 1, 1) := by decide +kernel
theorem dX1_easiestPlace_5 : decode cX1_easiestPlace 5 = .ok (.iconst 4, 1) := by decide +kernel
theorem dX1_easiestPlace_6 : decode cX1_easiestPlace 6 = .ok (.invokevirtual 21, 3) := by decide +kernel
theorem dX1_easiestPlace_9 : decode cX1_easiestPlace 9 = .ok (.istore_n 3, 1) := by decide +kernel
theorem dX1_easiestPlace_10 : decode cX1_easiestPlace 10 = .ok (.bipush (-6), 2) := by decide +kernel
theorem dX1_easiestPlace_12 : decode cX1_easiestPlace 12 = .ok (.istore 4, 2) := by decide +kernel
theorem dX1_easiestPlace_14 : decode cX1_easiestPlace 14 = .ok (.fconst 0, 1) := by decide +kernel
theorem dX1_easiestPlace_15 : decode cX1_easiestPlace 15 = .ok (.fstore 5, 2) := by decide +kernel
theorem dX1_easiestPlace_17 : decode cX1_easiestPlace 17 = .ok (.iconst 0, 1) := by decide +kernel
theorem dX1_easiestPlace_18 : decode cX1_easiestPlace 18 = .ok (.istore 6, 2) := by decide +kernel
theorem dX1_easiestPlace_20 : decode cX1_easiestPlace 20 = .ok (.iload 6, 2) := by decide +kernel
theorem dX1_easiestPlace_22 : decode cX1_easiestPlace 22 = .ok (.iconst 5, 1) := by decide +kernel
theorem dX1_easiestPlace_23 : decode cX1_easiestPlace 23 = .ok (.if_icmp .ge 52, 3) := by decide +kernel
theorem dX1_easiestPlace_26 : decode cX1_easiestPlace 26 = .ok (.aload_n 0, 1) := by decide +kernel
theorem dX1_easiestPlace_27 : decode cX1_easiestPlace 27 = .ok (.iload_n 2, 1) := by decide +kernel
theorem dX1_easiestPlace_28 : decode cX1_easiestPlace 28 = .ok (.iload 6, 2) := by decide +kernel
theorem dX1_easiestPlace_30 : decode cX1_easiestPlace 30 = .ok (.invokevirtual 95, 3) := by decide +kernel
theorem dX1_easiestPlace_33 : decode cX1_easiestPlace 33 = .ok (.ifCond .eq 36, 3) := by decide +kernel
theorem dX1_easiestPlace_36 : decode cX1_easiestPlace 36 = .ok (.aload_n 0, 1) := by decide +kernel
theorem dX1_easiestPlace_37 : decode cX1_easiestPlace 37 = .ok (.iload_n 2, 1) := by decide +kernel
theorem dX1_easiestPlace_38 : decode cX1_easiestPlace 38 = .ok (.iload 6, 2) := by decide +kernel
theorem dX1_easiestPlace_40 : decode cX1_easiestPlace 40 = .ok (.iload_n 3, 1) := by decide +kernel
theorem dX1_easiestPlace_41 : decode cX1_easiestPlace 41 = .ok (.invokevirtual 99, 3) := by decide +kernel
theorem dX1_easiestPlace_44 : decode cX1_easiestPlace 44 = .ok (.fstore 7, 2) := by decide +kernel
theorem dX1_easiestPlace_46 : decode cX1_easiestPlace 46 = .ok (.iload 4, 2) := by decide +kernel
theorem dX1_easiestPlace_48 : decode cX1_easiestPlace 48 = .ok (.bipush (-6), 2) := by decide +kernel
theorem dX1_easiestPlace_50 : decode cX1_easiestPlace 50 = .ok (.if_icmp .eq 11, 3) := by decide +kernel
theorem dX1_easiestPlace_53 : decode cX1_easiestPlace 53 = .ok (.fload 7, 2) := by decide +kernel
theorem dX1_easiestPlace_55 : decode cX1_easiestPlace 55 = .ok (.fload 5, 2) := by decide +kernel
theorem dX1_easiestPlace_57 : decode cX1_easiestPlace 57 = .ok (.fcmp .g, 1) := by decide +kernel
theorem dX1_easiestPlace_58 : decode cX1_easiestPlace 58 = .ok (.ifCond .ge 11, 3) := by decide +kernel
theorem dX1_easiestPlace_61 : decode cX1_easiestPlace 61 = .ok (.iload 6, 2) := by decide +kernel
theorem dX1_easiestPlace_63 : decode cX1_easiestPlace 63 = .ok (.istore 4, 2) := by decide +kernel
theorem dX1_easiestPlace_65 : decode cX1_easiestPlace 65 = .ok (.fload 7, 2) := by decide +kernel
theorem dX1_easiestPlace_67 : decode cX1_easiestPlace 67 = .ok (.fstore 5, 2) := by decide +kernel
theorem dX1_easiestPlace_69 : decode cX1_easiestPlace 69 = .ok (.iinc 6 1, 3) := by decide +kernel
theorem dX1_easiestPlace_72 : decode cX1_easiestPlace 72 = .ok (.goto (-52), 3) := by decide +kernel
theorem dX1_easiestPlace_75 : decode cX1_easiestPlace 75 = .ok (.iload 4, 2) := by decide +kernel
theorem dX1_easiestPlace_77 : decode cX1_easiestPlace 77 = .ok (.ireturn, 1) := by decide +kernel
theorem dX2_init_0 : decode cX2_init 0 = .ok (.aload_n 0, 1) := by decide +kernel
theorem dX2_init_1 : decode cX2_init 1 = .ok (.invokespecial 3, 3) := by decide +kernel
theorem dX2_init_4 : decode cX2_init 4 = .ok (.aload_n 0, 1) := by decide +kernel
theorem dX2_init_5 : decode cX2_init 5 = .ok (.bipush 7, 2) := by decide +kernel
theorem dX2_init_7 : decode cX2_init 7 = .ok (.sipush 344, 3) := by decide +kernel
theorem dX2_init_10 : decode cX2_init 10 = .ok (.multianewarray 9 2, 4) := by decide +kernel
theorem dX2_init_14 : decode cX2_init 14 = .ok (.putfield 11, 3) := by decide +kernel
theorem dX2_init_17 : decode cX2_init 17 = .ok (.aload_n 0, 1) := by decide +kernel
theorem dX2_init_18 : decode cX2_init 18 = .ok (.iconst 0, 1) := by decide +kernel
theorem dX2_init_19 : decode cX2_init 19 = .ok (.putfield 16, 3) := by decide +kernel
theorem dX2_init_22 : decode cX2_init 22 = .ok (.aload_n 0, 1) := by decide +kernel
theorem dX2_init_23 : decode cX2_init 23 = .ok (.iconst 0, 1) := by decide +kernel
theorem dX2_init_24 : decode cX2_init 24 = .ok (.putfield 20, 3) := by decide +kernel
theorem dX2_init_27 : decode cX2_init 27 = .ok (.return_, 1) := by decide +kernel
theorem dX2_size_0 : decode cX2_size 0 = .ok (.aload_n 0, 1) := by decide +kernel
theorem dX2_size_1 : decode cX2_size 1 = .ok (.getfield 20, 3) := by decide +kernel
theorem dX2_size_4 : decode cX2_size 4 = .ok (.ireturn, 1) := by decide +kernel
theorem dX2_nextRow_0 : decode cX2_nextRow 0 = .ok (.aload_n 0, 1) := by decide +kernel
theorem dX2_nextRow_1 : decode cX2_nextRow 1 = .ok (.getfield 16, 3) := by decide +kernel
theorem dX2_nextRow_4 : decode cX2_nextRow 4 = .ok (.ifCond .lt 27, 3) := by decide +kernel
theorem dX2_nextRow_7 : decode cX2_nextRow 7 = .ok (.aload_n 0, 1) := by decide +kernel
theorem dX2_nextRow_8 : decode cX2_nextRow 8 = .ok (.getfield 16, 3) := by decide +kernel
theorem dX2_nextRow_11 : decode cX2_nextRow 11 = .ok (.aload_n 0, 1) := by decide +kernel
theorem dX2_nextRow_12 : decode cX2_nextRow 12 = .ok (.getfield 11, 3) := by decide +kernel
theorem dX2_nextRow_15 : decode cX2_nextRow 15 = .ok (.arraylength, 1) := by decide +kernel
theorem dX2_nextRow_16 : decode cX2_nextRow 16 = .ok (.if_icmp .ge 15, 3) := by decide +kernel
theorem dX2_nextRow_19 : decode cX2_nextRow 19 = .ok (.aload_n 0, 1) := by decide +kernel
theorem dX2_nextRow_20 : decode cX2_nextRow 20 = .ok (.getfield 11, 3) := by decide +kernel
theorem dX2_nextRow_23 : decode cX2_nextRow 23 = .ok (.aload_n 0, 1) := by decide +kernel
theorem dX2_nextRow_24 : decode cX2_nextRow 24 = .ok (.getfield 16, 3) := by decide +kernel
theorem dX2_nextRow_27 : decode cX2_nextRow 27 = .ok (.aaload, 1) := by decide +kernel
theorem dX2_nextRow_28 : decode cX2_nextRow 28 = .ok (.goto 4, 3) := by decide +kernel
theorem dX2_nextRow_31 : decode cX2_nextRow 31 = .ok (.aconst_null, 1) := by decide +kernel
theorem dX2_nextRow_32 : decode cX2_nextRow 32 = .ok (.areturn, 1) := by decide +kernel
theorem dX2_note_0 : decode cX2_note 0 = .ok (.aload_n 1, 1) := by decide +kernel
theorem dX2_note_1 : decode cX2_note 1 = .ok (.aload_n 0, 1) := by decide +kernel
theorem dX2_note_2 : decode cX2_note 2 = .ok (.invokevirtual 23, 3) := by decide +kernel
theorem dX2_note_5 : decode cX2_note 5 = .ok (.invokevirtual 27, 3) := by decide +kernel
theorem dX2_note_8 : decode cX2_note 8 = .ok (.return_, 1) := by decide +kernel
theorem dX2_settle_0 : decode cX2_settle 0 = .ok (.iload_n 1, 1) := by decide +kernel
theorem dX2_settle_1 : decode cX2_settle 1 = .ok (.ifCond .lt 41, 3) := by decide +kernel
theorem dX2_settle_4 : decode cX2_settle 4 = .ok (.aload_n 0, 1) := by decide +kernel
theorem dX2_settle_5 : decode cX2_settle 5 = .ok (.aload_n 0, 1) := by decide +kernel
theorem dX2_settle_6 : decode cX2_settle 6 = .ok (.getfield 16, 3) := by decide +kernel
theorem dX2_settle_9 : decode cX2_settle 9 = .ok (.bipush 6, 2) := by decide +kernel
theorem dX2_settle_11 : decode cX2_settle 11 = .ok (.if_icmp .ge 12, 3) := by decide +kernel
theorem dX2_settle_14 : decode cX2_settle 14 = .ok (.aload_n 0, 1) := by decide +kernel
theorem dX2_settle_15 : decode cX2_settle 15 = .ok (.getfield 16, 3) := by decide +kernel
theorem dX2_settle_18 : decode cX2_settle 18 = .ok (.iconst 1, 1) := by decide +kernel
theorem dX2_settle_19 : decode cX2_settle 19 = .ok (.iadd, 1) := by decide +kernel
theorem dX2_settle_20 : decode cX2_settle 20 = .ok (.goto 4, 3) := by decide +kernel
theorem dX2_settle_23 : decode cX2_settle 23 = .ok (.iconst 0, 1) := by decide +kernel
theorem dX2_settle_24 : decode cX2_settle 24 = .ok (.putfield 16, 3) := by decide +kernel
theorem dX2_settle_27 : decode cX2_settle 27 = .ok (.aload_n 0, 1) := by decide +kernel
theorem dX2_settle_28 : decode cX2_settle 28 = .ok (.aload_n 0, 1) := by decide +kernel
theorem dX2_settle_29 : decode cX2_settle 29 = .ok (.getfield 20, 3) := by decide +kernel
theorem dX2_settle_32 : decode cX2_settle 32 = .ok (.iconst 1, 1) := by decide +kernel
theorem dX2_settle_33 : decode cX2_settle 33 = .ok (.iadd, 1) := by decide +kernel
theorem dX2_settle_34 : decode cX2_settle 34 = .ok (.bipush 6, 2) := by decide +kernel
theorem dX2_settle_36 : decode cX2_settle 36 = .ok (.invokestatic 33, 3) := by decide +kernel
theorem dX2_settle_39 : decode cX2_settle 39 = .ok (.putfield 20, 3) := by decide +kernel
theorem dX2_settle_42 : decode cX2_settle 42 = .ok (.iload_n 1, 1) := by decide +kernel
theorem dX2_settle_43 : decode cX2_settle 43 = .ok (.ireturn, 1) := by decide +kernel
theorem dX2_goBack_0 : decode cX2_goBack 0 = .ok (.aload_n 0, 1) := by decide +kernel
theorem dX2_goBack_1 : decode cX2_goBack 1 = .ok (.getfield 20, 3) := by decide +kernel
theorem dX2_goBack_4 : decode cX2_goBack 4 = .ok (.ifCond .ne 6, 3) := by decide +kernel
theorem dX2_goBack_7 : decode cX2_goBack 7 = .ok (.bipush (-5), 2) := by decide +kernel
theorem dX2_goBack_9 : decode cX2_goBack 9 = .ok (.ireturn, 1) := by decide +kernel
theorem dX2_goBack_10 : decode cX2_goBack 10 = .ok (.aload_n 0, 1) := by decide +kernel
theorem dX2_goBack_11 : decode cX2_goBack 11 = .ok (.aload_n 0, 1) := by decide +kernel
theorem dX2_goBack_12 : decode cX2_goBack 12 = .ok (.getfield 16, 3) := by decide +kernel
theorem dX2_goBack_15 : decode cX2_goBack 15 = .ok (.ifCond .le 12, 3) := by decide +kernel
theorem dX2_goBack_18 : decode cX2_goBack 18 = .ok (.aload_n 0, 1) := by decide +kernel
theorem dX2_goBack_19 : decode cX2_goBack 19 = .ok (.getfield 16, 3) := by decide +kernel
theorem dX2_goBack_22 : decode cX2_goBack 22 = .ok (.iconst 1, 1) := by decide +kernel
theorem dX2_goBack_23 : decode cX2_goBack 23 = .ok (.isub, 1) := by decide +kernel
theorem dX2_goBack_24 : decode cX2_goBack 24 = .ok (.goto 5, 3) := by decide +kernel
theorem dX2_goBack_27 : decode cX2_goBack 27 = .ok (.bipush 6, 2) := by decide +kernel
theorem dX2_goBack_29 : decode cX2_goBack 29 = .ok (.putfield 16, 3) := by decide +kernel
theorem dX2_goBack_32 : decode cX2_goBack 32 = .ok (.aload_n 0, 1) := by decide +kernel
theorem dX2_goBack_33 : decode cX2_goBack 33 = .ok (.dup, 1) := by decide +kernel
theorem dX2_goBack_34 : decode cX2_goBack 34 = .ok (.getfield 20, 3) := by decide +kernel
theorem dX2_goBack_37 : decode cX2_goBack 37 = .ok (.iconst 1, 1) := by decide +kernel
theorem dX2_goBack_38 : decode cX2_goBack 38 = .ok (.isub, 1) := by decide +kernel
theorem dX2_goBack_39 : decode cX2_goBack 39 = .ok (.putfield 20, 3) := by decide +kernel
theorem dX2_goBack_42 : decode cX2_goBack 42 = .ok (.aload_n 1, 1) := by decide +kernel
theorem dX2_goBack_43 : decode cX2_goBack 43 = .ok (.aload_n 0, 1) := by decide +kernel
theorem dX2_goBack_44 : decode cX2_goBack 44 = .ok (.invokevirtual 23, 3) := by decide +kernel
theorem dX2_goBack_47 : decode cX2_goBack 47 = .ok (.invokevirtual 39, 3) := by decide +kernel
theorem dX2_goBack_50 : decode cX2_goBack 50 = .ok (.aload_n 0, 1) := by decide +kernel
theorem dX2_goBack_51 : decode cX2_goBack 51 = .ok (.getfield 20, 3) := by decide +kernel
theorem dX2_goBack_54 : decode cX2_goBack 54 = .ok (.ireturn, 1) := by decide +kernel
theorem dX3_init_0 : decode cX3_init 0 = .ok (.aload_n 0, 1) := by decide +kernel
theorem dX3_init_1 : decode cX3_init 1 = .ok (.invokespecial 3, 3) := by decide +kernel
theorem dX3_init_4 : decode cX3_init 4 = .ok (.aload_n 0, 1) := by decide +kernel
theorem dX3_init_5 : decode cX3_init 5 = .ok (.bipush 80, 2) := by decide +kernel
theorem dX3_init_7 : decode cX3_init 7 = .ok (.newarray .char, 2) := by decide +kernel
theorem dX3_init_9 : decode cX3_init 9 = .ok (.putfield 9, 3) := by decide +kernel
theorem dX3_init_12 : decode cX3_init 12 = .ok (.aload_n 0, 1) := by decide +kernel
theorem dX3_init_13 : decode cX3_init 13 = .ok (.iconst 0, 1) := by decide +kernel
theorem dX3_init_14 : decode cX3_init 14 = .ok (.putfield 15, 3) := by decide +kernel
theorem dX3_init_17 : decode cX3_init 17 = .ok (.aload_n 0, 1) := by decide +kernel
theorem dX3_init_18 : decode cX3_init 18 = .ok (.iconst 0, 1) := by decide +kernel
theorem dX3_init_19 : decode cX3_init 19 = .ok (.putfield 19, 3) := by decide +kernel
theorem dX3_init_22 : decode cX3_init 22 = .ok (.aload_n 0, 1) := by decide +kernel
theorem dX3_init_23 : decode cX3_init 23 = .ok (.iconst 0, 1) := by decide +kernel
theorem dX3_init_24 : decode cX3_init 24 = .ok (.putfield 22, 3) := by decide +kernel
theorem dX3_init_27 : decode cX3_init 27 = .ok (.aload_n 0, 1) := by decide +kernel
theorem dX3_init_28 : decode cX3_init 28 = .ok (.iconst 4, 1) := by decide +kernel
theorem dX3_init_29 : decode cX3_init 29 = .ok (.newarray .int, 2) := by decide +kernel
theorem dX3_init_31 : decode cX3_init 31 = .ok (.putfield 25, 3) := by decide +kernel
theorem dX3_init_34 : decode cX3_init 34 = .ok (.aload_n 0, 1) := by decide +kernel
theorem dX3_init_35 : decode cX3_init 35 = .ok (.iconst 0, 1) := by decide +kernel
theorem dX3_init_36 : decode cX3_init 36 = .ok (.putfield 29, 3) := by decide +kernel
theorem dX3_init_39 : decode cX3_init 39 = .ok (.aload_n 0, 1) := by decide +kernel
theorem dX3_init_40 : decode cX3_init 40 = .ok (.iconst 0, 1) := by decide +kernel
theorem dX3_init_41 : decode cX3_init 41 = .ok (.putfield 32, 3) := by decide +kernel
theorem dX3_init_44 : decode cX3_init 44 = .ok (.return_, 1) := by decide +kernel
theorem dX3_length_0 : decode cX3_length 0 = .ok (.aload_n 0, 1) := by decide +kernel
theorem dX3_length_1 : decode cX3_length 1 = .ok (.getfield 15, 3) := by decide +kernel
theorem dX3_length_4 : decode cX3_length 4 = .ok (.ireturn, 1) := by decide +kernel
theorem dX4_init_0 : decode cX4_init 0 = .ok (.aload_n 0, 1) := by decide +kernel
theorem dX4_init_1 : decode cX4_init 1 = .ok (.invokespecial 3, 3) := by decide +kernel
theorem dX4_init_4 : decode cX4_init 4 = .ok (.aload_n 0, 1) := by decide +kernel
theorem dX4_init_5 : decode cX4_init 5 = .ok (.iconst 2, 1) := by decide +kernel
theorem dX4_init_6 : decode cX4_init 6 = .ok (.sipush 344, 3) := by decide +kernel
theorem dX4_init_9 : decode cX4_init 9 = .ok (.multianewarray 9 2, 4) := by decide +kernel
theorem dX4_init_13 : decode cX4_init 13 = .ok (.putfield 11, 3) := by decide +kernel
theorem dX4_init_16 : decode cX4_init 16 = .ok (.aload_n 0, 1) := by decide +kernel
theorem dX4_init_17 : decode cX4_init 17 = .ok (.iconst 2, 1) := by decide +kernel
theorem dX4_init_18 : decode cX4_init 18 = .ok (.newarray .boolean, 2) := by decide +kernel
theorem dX4_init_20 : decode cX4_init 20 = .ok (.putfield 16, 3) := by decide +kernel
theorem dX4_init_23 : decode cX4_init 23 = .ok (.return_, 1) := by decide +kernel
theorem dX5_init_0 : decode cX5_init 0 = .ok (.aload_n 0, 1) := by decide +kernel
theorem dX5_init_1 : decode cX5_init 1 = .ok (.invokespecial 3, 3) := by decide +kernel
theorem dX5_init_4 : decode cX5_init 4 = .ok (.aload_n 0, 1) := by decide +kernel
theorem dX5_init_5 : decode cX5_init 5 = .ok (.sipush 344, 3) := by decide +kernel
theorem dX5_init_8 : decode cX5_init 8 = .ok (.newarray .int, 2) := by decide +kernel
theorem dX5_init_10 : decode cX5_init 10 = .ok (.putfield 9, 3) := by decide +kernel
theorem dX5_init_13 : decode cX5_init 13 = .ok (.aload_n 0, 1) := by decide +kernel
theorem dX5_init_14 : decode cX5_init 14 = .ok (.iconst 0, 1) := by decide +kernel
theorem dX5_init_15 : decode cX5_init 15 = .ok (.iconst 2, 1) := by decide +kernel
theorem dX5_init_16 : decode cX5_init 16 = .ok (.invokevirtual 15, 3) := by decide +kernel
theorem dX5_init_19 : decode cX5_init 19 = .ok (.aload_n 0, 1) := by decide +kernel
theorem dX5_init_20 : decode cX5_init 20 = .ok (.iconst 1, 1) := by decide +kernel
theorem dX5_init_21 : decode cX5_init 21 = .ok (.bipush 12, 2) := by decide +kernel
theorem dX5_init_23 : decode cX5_init 23 = .ok (.invokevirtual 15, 3) := by decide +kernel
theorem dX5_init_26 : decode cX5_init 26 = .ok (.aload_n 0, 1) := by decide +kernel
theorem dX5_init_27 : decode cX5_init 27 = .ok (.iconst 2, 1) := by decide +kernel
theorem dX5_init_28 : decode cX5_init 28 = .ok (.bipush (-3), 2) := by decide +kernel
theorem dX5_init_30 : decode cX5_init 30 = .ok (.invokevirtual 15, 3) := by decide +kernel
theorem dX5_init_33 : decode cX5_init 33 = .ok (.aload_n 0, 1) := by decide +kernel
theorem dX5_init_34 : decode cX5_init 34 = .ok (.iconst 3, 1) := by decide +kernel
theorem dX5_init_35 : decode cX5_init 35 = .ok (.iconst 5, 1) := by decide +kernel
theorem dX5_init_36 : decode cX5_init 36 = .ok (.invokevirtual 15, 3) := by decide +kernel
theorem dX5_init_39 : decode cX5_init 39 = .ok (.iconst 0, 1) := by decide +kernel
theorem dX5_init_40 : decode cX5_init 40 = .ok (.istore_n 1, 1) := by decide +kernel
theorem dX5_init_41 : decode cX5_init 41 = .ok (.iload_n 1, 1) := by decide +kernel
theorem dX5_init_42 : decode cX5_init 42 = .ok (.iconst 3, 1) := by decide +kernel
theorem dX5_init_43 : decode cX5_init 43 = .ok (.if_icmp .ge 36, 3) := by decide +kernel
theorem dX5_init_46 : decode cX5_init 46 = .ok (.aload_n 0, 1) := by decide +kernel
theorem dX5_init_47 : decode cX5_init 47 = .ok (.iload_n 1, 1) := by decide +kernel
theorem dX5_init_48 : decode cX5_init 48 = .ok (.iconst 0, 1) := by decide +kernel
theorem dX5_init_49 : decode cX5_init 49 = .ok (.sipush 4000, 3) := by decide +kernel
theorem dX5_init_52 : decode cX5_init 52 = .ok (.invokevirtual 19, 3) := by decide +kernel
theorem dX5_init_55 : decode cX5_init 55 = .ok (.aload_n 0, 1) := by decide +kernel
theorem dX5_init_56 : decode cX5_init 56 = .ok (.iload_n 1, 1) := by decide +kernel
theorem dX5_init_57 : decode cX5_init 57 = .ok (.iconst 1, 1) := by decide +kernel
theorem dX5_init_58 : decode cX5_init 58 = .ok (.sipush 8000, 3) := by decide +kernel
theorem dX5_init_61 : decode cX5_init 61 = .ok (.invokevirtual 19, 3) := by decide +kernel
theorem dX5_init_64 : decode cX5_init 64 = .ok (.aload_n 0, 1) := by decide +kernel
theorem dX5_init_65 : decode cX5_init 65 = .ok (.iload_n 1, 1) := by decide +kernel
theorem dX5_init_66 : decode cX5_init 66 = .ok (.iconst 2, 1) := by decide +kernel
theorem dX5_init_67 : decode cX5_init 67 = .ok (.sipush 10000, 3) := by decide +kernel
theorem dX5_init_70 : decode cX5_init 70 = .ok (.invokevirtual 19, 3) := by decide +kernel
theorem dX5_init_73 : decode cX5_init 73 = .ok (.iinc 1 1, 3) := by decide +kernel
theorem dX5_init_76 : decode cX5_init 76 = .ok (.goto (-35), 3) := by decide +kernel
theorem dX5_init_79 : decode cX5_init 79 = .ok (.return_, 1) := by decide +kernel
theorem dX5_cell_0 : decode cX5_cell 0 = .ok (.iload_n 1, 1) := by decide +kernel
theorem dX5_cell_1 : decode cX5_cell 1 = .ok (.ifCond .lt 21, 3) := by decide +kernel
theorem dX5_cell_4 : decode cX5_cell 4 = .ok (.iload_n 1, 1) := by decide +kernel
theorem dX5_cell_5 : decode cX5_cell 5 = .ok (.aload_n 0, 1) := by decide +kernel
theorem dX5_cell_6 : decode cX5_cell 6 = .ok (.getfield 9, 3) := by decide +kernel
theorem dX5_cell_9 : decode cX5_cell 9 = .ok (.arraylength, 1) := by decide +kernel
theorem dX5_cell_10 : decode cX5_cell 10 = .ok (.if_icmp .ge 12, 3) := by decide +kernel
theorem dX5_cell_13 : decode cX5_cell 13 = .ok (.aload_n 0, 1) := by decide +kernel
theorem dX5_cell_14 : decode cX5_cell 14 = .ok (.getfield 9, 3) := by decide +kernel
theorem dX5_cell_17 : decode cX5_cell 17 = .ok (.iload_n 1, 1) := by decide +kernel
theorem dX5_cell_18 : decode cX5_cell 18 = .ok (.iaload, 1) := by decide +kernel
theorem dX5_cell_19 : decode cX5_cell 19 = .ok (.goto 4, 3) := by decide +kernel
theorem dX5_cell_22 : decode cX5_cell 22 = .ok (.iconst 0, 1) := by decide +kernel
theorem dX5_cell_23 : decode cX5_cell 23 = .ok (.ireturn, 1) := by decide +kernel
theorem dX5_setCell_0 : decode cX5_setCell 0 = .ok (.iload_n 1, 1) := by decide +kernel
theorem dX5_setCell_1 : decode cX5_setCell 1 = .ok (.ifCond .lt 19, 3) := by decide +kernel
theorem dX5_setCell_4 : decode cX5_setCell 4 = .ok (.iload_n 1, 1) := by decide +kernel
theorem dX5_setCell_5 : decode cX5_setCell 5 = .ok (.aload_n 0, 1) := by decide +kernel
theorem dX5_setCell_6 : decode cX5_setCell 6 = .ok (.getfield 9, 3) := by decide +kernel
theorem dX5_setCell_9 : decode cX5_setCell 9 = .ok (.arraylength, 1) := by decide +kernel
theorem dX5_setCell_10 : decode cX5_setCell 10 = .ok (.if_icmp .ge 10, 3) := by decide +kernel
theorem dX5_setCell_13 : decode cX5_setCell 13 = .ok (.aload_n 0, 1) := by decide +kernel
theorem dX5_setCell_14 : decode cX5_setCell 14 = .ok (.getfield 9, 3) := by decide +kernel
theorem dX5_setCell_17 : decode cX5_setCell 17 = .ok (.iload_n 1, 1) := by decide +kernel
theorem dX5_setCell_18 : decode cX5_setCell 18 = .ok (.iload_n 2, 1) := by decide +kernel
theorem dX5_setCell_19 : decode cX5_setCell 19 = .ok (.iastore, 1) := by decide +kernel
theorem dX5_setCell_20 : decode cX5_setCell 20 = .ok (.return_, 1) := by decide +kernel
theorem dX5_blockCell_0 : decode cX5_blockCell 0 = .ok (.bipush 8, 2) := by decide +kernel
theorem dX5_blockCell_2 : decode cX5_blockCell 2 = .ok (.iload_n 1, 1) := by decide +kernel
theorem dX5_blockCell_3 : decode cX5_blockCell 3 = .ok (.bipush 11, 2) := by decide +kernel
theorem dX5_blockCell_5 : decode cX5_blockCell 5 = .ok (.imul, 1) := by decide +kernel
theorem dX5_blockCell_6 : decode cX5_blockCell 6 = .ok (.iadd, 1) := by decide +kernel
theorem dX5_blockCell_7 : decode cX5_blockCell 7 = .ok (.iload_n 2, 1) := by decide +kernel
theorem dX5_blockCell_8 : decode cX5_blockCell 8 = .ok (.iadd, 1) := by decide +kernel
theorem dX5_blockCell_9 : decode cX5_blockCell 9 = .ok (.istore_n 3, 1) := by decide +kernel
theorem dX5_blockCell_10 : decode cX5_blockCell 10 = .ok (.iload_n 3, 1) := by decide +kernel
theorem dX5_blockCell_11 : decode cX5_blockCell 11 = .ok (.ifCond .lt 21, 3) := by decide +kernel
theorem dX5_blockCell_14 : decode cX5_blockCell 14 = .ok (.iload_n 3, 1) := by decide +kernel
theorem dX5_blockCell_15 : decode cX5_blockCell 15 = .ok (.aload_n 0, 1) := by decide +kernel
theorem dX5_blockCell_16 : decode cX5_blockCell 16 = .ok (.getfield 9, 3) := by decide +kernel
theorem dX5_blockCell_19 : decode cX5_blockCell 19 = .ok (.arraylength, 1) := by decide +kernel
theorem dX5_blockCell_20 : decode cX5_blockCell 20 = .ok (.if_icmp .ge 12, 3) := by decide +kernel
theorem dX5_blockCell_23 : decode cX5_blockCell 23 = .ok (.aload_n 0, 1) := by decide +kernel
theorem dX5_blockCell_24 : decode cX5_blockCell 24 = .ok (.getfield 9, 3) := by decide +kernel
theorem dX5_blockCell_27 : decode cX5_blockCell 27 = .ok (.iload_n 3, 1) := by decide +kernel
theorem dX5_blockCell_28 : decode cX5_blockCell 28 = .ok (.iaload, 1) := by decide +kernel
theorem dX5_blockCell_29 : decode cX5_blockCell 29 = .ok (.goto 4, 3) := by decide +kernel
theorem dX5_blockCell_32 : decode cX5_blockCell 32 = .ok (.iconst 0, 1) := by decide +kernel
theorem dX5_blockCell_33 : decode cX5_blockCell 33 = .ok (.ireturn, 1) := by decide +kernel
theorem dX5_setBlockCell_0 : decode cX5_setBlockCell 0 = .ok (.aload_n 0, 1) := by decide +kernel
theorem dX5_setBlockCell_1 : decode cX5_setBlockCell 1 = .ok (.bipush 8, 2) := by decide +kernel
theorem dX5_setBlockCell_3 : decode cX5_setBlockCell 3 = .ok (.iload_n 1, 1) := by decide +kernel
theorem dX5_setBlockCell_4 : decode cX5_setBlockCell 4 = .ok (.bipush 11, 2) := by decide +kernel
theorem dX5_setBlockCell_6 : decode cX5_setBlockCell 6 = .ok (.imul, 1) := by decide +kernel
theorem dX5_setBlockCell_7 : decode cX5_setBlockCell 7 = .ok (.iadd, 1) := by decide +kernel
theorem dX5_setBlockCell_8 : decode cX5_setBlockCell 8 = .ok (.iload_n 2, 1) := by decide +kernel
theorem dX5_setBlockCell_9 : decode cX5_setBlockCell 9 = .ok (.iadd, 1) := by decide +kernel
theorem dX5_setBlockCell_10 : decode cX5_setBlockCell 10 = .ok (.iload_n 3, 1) := by decide +kernel
theorem dX5_setBlockCell_11 : decode cX5_setBlockCell 11 = .ok (.invokevirtual 15, 3) := by decide +kernel
theorem dX5_setBlockCell_14 : decode cX5_setBlockCell 14 = .ok (.return_, 1) := by decide +kernel
theorem dX5_orderCell_0 : decode cX5_orderCell 0 = .ok (.aload_n 0, 1) := by decide +kernel
theorem dX5_orderCell_1 : decode cX5_orderCell 1 = .ok (.sipush 272, 3) := by decide +kernel
theorem dX5_orderCell_4 : decode cX5_orderCell 4 = .ok (.iload_n 1, 1) := by decide +kernel
theorem dX5_orderCell_5 : decode cX5_orderCell 5 = .ok (.bipush 6, 2) := by decide +kernel
theorem dX5_orderCell_7 : decode cX5_orderCell 7 = .ok (.imul, 1) := by decide +kernel
theorem dX5_orderCell_8 : decode cX5_orderCell 8 = .ok (.iadd, 1) := by decide +kernel
theorem dX5_orderCell_9 : decode cX5_orderCell 9 = .ok (.iload_n 2, 1) := by decide +kernel
theorem dX5_orderCell_10 : decode cX5_orderCell 10 = .ok (.iadd, 1) := by decide +kernel
theorem dX5_orderCell_11 : decode cX5_orderCell 11 = .ok (.invokevirtual 23, 3) := by decide +kernel
theorem dX5_orderCell_14 : decode cX5_orderCell 14 = .ok (.ireturn, 1) := by decide +kernel
theorem dX5_setOrderCell_0 : decode cX5_setOrderCell 0 = .ok (.aload_n 0, 1) := by decide +kernel
theorem dX5_setOrderCell_1 : decode cX5_setOrderCell 1 = .ok (.sipush 272, 3) := by decide +kernel
theorem dX5_setOrderCell_4 : decode cX5_setOrderCell 4 = .ok (.iload_n 1, 1) := by decide +kernel
theorem dX5_setOrderCell_5 : decode cX5_setOrderCell 5 = .ok (.bipush 6, 2) := by decide +kernel
theorem dX5_setOrderCell_7 : decode cX5_setOrderCell 7 = .ok (.imul, 1) := by decide +kernel
theorem dX5_setOrderCell_8 : decode cX5_setOrderCell 8 = .ok (.iadd, 1) := by decide +kernel
theorem dX5_setOrderCell_9 : decode cX5_setOrderCell 9 = .ok (.iload_n 2, 1) := by decide +kernel
theorem dX5_setOrderCell_10 : decode cX5_setOrderCell 10 = .ok (.iadd, 1) := by decide +kernel
theorem dX5_setOrderCell_11 : decode cX5_setOrderCell 11 = .ok (.iload_n 3, 1) := by decide +kernel
theorem dX5_setOrderCell_12 : decode cX5_setOrderCell 12 = .ok (.invokevirtual 15, 3) := by decide +kernel
theorem dX5_setOrderCell_15 : decode cX5_setOrderCell 15 = .ok (.return_, 1) := by decide +kernel
theorem dX5_lorryCell_0 : decode cX5_lorryCell 0 = .ok (.aload_n 0, 1) := by decide +kernel
theorem dX5_lorryCell_1 : decode cX5_lorryCell 1 = .ok (.sipush 332, 3) := by decide +kernel
theorem dX5_lorryCell_4 : decode cX5_lorryCell 4 = .ok (.iload_n 1, 1) := by decide +kernel
theorem dX5_lorryCell_5 : decode cX5_lorryCell 5 = .ok (.iconst 4, 1) := by decide +kernel
theorem dX5_lorryCell_6 : decode cX5_lorryCell 6 = .ok (.imul, 1) := by decide +kernel
theorem dX5_lorryCell_7 : decode cX5_lorryCell 7 = .ok (.iadd, 1) := by decide +kernel
theorem dX5_lorryCell_8 : decode cX5_lorryCell 8 = .ok (.iload_n 2, 1) := by decide +kernel
theorem dX5_lorryCell_9 : decode cX5_lorryCell 9 = .ok (.iadd, 1) := by decide +kernel
theorem dX5_lorryCell_10 : decode cX5_lorryCell 10 = .ok (.invokevirtual 23, 3) := by decide +kernel
theorem dX5_lorryCell_13 : decode cX5_lorryCell 13 = .ok (.ireturn, 1) := by decide +kernel
theorem dX5_setLorryCell_0 : decode cX5_setLorryCell 0 = .ok (.aload_n 0, 1) := by decide +kernel
theorem dX5_setLorryCell_1 : decode cX5_setLorryCell 1 = .ok (.sipush 332, 3) := by decide +kernel
theorem dX5_setLorryCell_4 : decode cX5_setLorryCell 4 = .ok (.iload_n 1, 1) := by decide +kernel
theorem dX5_setLorryCell_5 : decode cX5_setLorryCell 5 = .ok (.iconst 4, 1) := by decide +kernel
theorem dX5_setLorryCell_6 : decode cX5_setLorryCell 6 = .ok (.imul, 1) := by decide +kernel
theorem dX5_setLorryCell_7 : decode cX5_setLorryCell 7 = .ok (.iadd, 1) := by decide +kernel
theorem dX5_setLorryCell_8 : decode cX5_setLorryCell 8 = .ok (.iload_n 2, 1) := by decide +kernel
theorem dX5_setLorryCell_9 : decode cX5_setLorryCell 9 = .ok (.iadd, 1) := by decide +kernel
theorem dX5_setLorryCell_10 : decode cX5_setLorryCell 10 = .ok (.iload_n 3, 1) := by decide +kernel
theorem dX5_setLorryCell_11 : decode cX5_setLorryCell 11 = .ok (.invokevirtual 15, 3) := by decide +kernel
theorem dX5_setLorryCell_14 : decode cX5_setLorryCell 14 = .ok (.return_, 1) := by decide +kernel
theorem dX5_hasBlock_0 : decode cX5_hasBlock 0 = .ok (.iload_n 1, 1) := by decide +kernel
theorem dX5_hasBlock_1 : decode cX5_hasBlock 1 = .ok (.ifCond .lt 17, 3) := by decide +kernel
theorem dX5_hasBlock_4 : decode cX5_hasBlock 4 = .ok (.iload_n 1, 1) := by decide +kernel
theorem dX5_hasBlock_5 : decode cX5_hasBlock 5 = .ok (.aload_n 0, 1) := by decide +kernel
theorem dX5_hasBlock_6 : decode cX5_hasBlock 6 = .ok (.bipush 6, 2) := by decide +kernel
theorem dX5_hasBlock_8 : decode cX5_hasBlock 8 = .ok (.invokevirtual 23, 3) := by decide +kernel
theorem dX5_hasBlock_11 : decode cX5_hasBlock 11 = .ok (.if_icmp .ge 7, 3) := by decide +kernel
theorem dX5_hasBlock_14 : decode cX5_hasBlock 14 = .ok (.iconst 1, 1) := by decide +kernel
theorem dX5_hasBlock_15 : decode cX5_hasBlock 15 = .ok (.goto 4, 3) := by decide +kernel
theorem dX5_hasBlock_18 : decode cX5_hasBlock 18 = .ok (.iconst 0, 1) := by decide +kernel
theorem dX5_hasBlock_19 : decode cX5_hasBlock 19 = .ok (.ireturn, 1) := by decide +kernel
theorem dX5_hasOrder_0 : decode cX5_hasOrder 0 = .ok (.iload_n 1, 1) := by decide +kernel
theorem dX5_hasOrder_1 : decode cX5_hasOrder 1 = .ok (.ifCond .lt 17, 3) := by decide +kernel
theorem dX5_hasOrder_4 : decode cX5_hasOrder 4 = .ok (.iload_n 1, 1) := by decide +kernel
theorem dX5_hasOrder_5 : decode cX5_hasOrder 5 = .ok (.aload_n 0, 1) := by decide +kernel
theorem dX5_hasOrder_6 : decode cX5_hasOrder 6 = .ok (.bipush 7, 2) := by decide +kernel
theorem dX5_hasOrder_8 : decode cX5_hasOrder 8 = .ok (.invokevirtual 23, 3) := by decide +kernel
theorem dX5_hasOrder_11 : decode cX5_hasOrder 11 = .ok (.if_icmp .ge 7, 3) := by decide +kernel
theorem dX5_hasOrder_14 : decode cX5_hasOrder 14 = .ok (.iconst 1, 1) := by decide +kernel
theorem dX5_hasOrder_15 : decode cX5_hasOrder 15 = .ok (.goto 4, 3) := by decide +kernel
theorem dX5_hasOrder_18 : decode cX5_hasOrder 18 = .ok (.iconst 0, 1) := by decide +kernel
theorem dX5_hasOrder_19 : decode cX5_hasOrder 19 = .ok (.ireturn, 1) := by decide +kernel
theorem dX5_blocksWith_0 : decode cX5_blocksWith 0 = .ok (.aload_n 0, 1) := by decide +kernel
theorem dX5_blocksWith_1 : decode cX5_blocksWith 1 = .ok (.bipush 6, 2) := by decide +kernel
theorem dX5_blocksWith_3 : decode cX5_blocksWith 3 = .ok (.invokevirtual 23, 3) := by decide +kernel
theorem dX5_blocksWith_6 : decode cX5_blocksWith 6 = .ok (.istore_n 3, 1) := by decide +kernel
theorem dX5_blocksWith_7 : decode cX5_blocksWith 7 = .ok (.iconst 0, 1) := by decide +kernel
theorem dX5_blocksWith_8 : decode cX5_blocksWith 8 = .ok (.istore 4, 2) := by decide +kernel
theorem dX5_blocksWith_10 : decode cX5_blocksWith 10 = .ok (.iconst 0, 1) := by decide +kernel
theorem dX5_blocksWith_11 : decode cX5_blocksWith 11 = .ok (.istore 5, 2) := by decide +kernel
theorem dX5_blocksWith_13 : decode cX5_blocksWith 13 = .ok (.iload 5, 2) := by decide +kernel
theorem dX5_blocksWith_15 : decode cX5_blocksWith 15 = .ok (.iload_n 3, 1) := by decide +kernel
theorem dX5_blocksWith_16 : decode cX5_blocksWith 16 = .ok (.if_icmp .ge 29, 3) := by decide +kernel
theorem dX5_blocksWith_19 : decode cX5_blocksWith 19 = .ok (.aload_n 0, 1) := by decide +kernel
theorem dX5_blocksWith_20 : decode cX5_blocksWith 20 = .ok (.iload 5, 2) := by decide +kernel
theorem dX5_blocksWith_22 : decode cX5_blocksWith 22 = .ok (.iload_n 1, 1) := by decide +kernel
theorem dX5_blocksWith_23 : decode cX5_blocksWith 23 = .ok (.invokevirtual 27, 3) := by decide +kernel
theorem dX5_blocksWith_26 : decode cX5_blocksWith 26 = .ok (.iload_n 2, 1) := by decide +kernel
theorem dX5_blocksWith_27 : decode cX5_blocksWith 27 = .ok (.if_icmp .ne 12, 3) := by decide +kernel
theorem dX5_blocksWith_30 : decode cX5_blocksWith 30 = .ok (.iload 4, 2) := by decide +kernel
theorem dX5_blocksWith_32 : decode cX5_blocksWith 32 = .ok (.iconst 1, 1) := by decide +kernel
theorem dX5_blocksWith_33 : decode cX5_blocksWith 33 = .ok (.iload 5, 2) := by decide +kernel
theorem dX5_blocksWith_35 : decode cX5_blocksWith 35 = .ok (.ishl, 1) := by decide +kernel
theorem dX5_blocksWith_36 : decode cX5_blocksWith 36 = .ok (.ior, 1) := by decide +kernel
theorem dX5_blocksWith_37 : decode cX5_blocksWith 37 = .ok (.istore 4, 2) := by decide +kernel
theorem dX5_blocksWith_39 : decode cX5_blocksWith 39 = .ok (.iinc 5 1, 3) := by decide +kernel
theorem dX5_blocksWith_42 : decode cX5_blocksWith 42 = .ok (.goto (-29), 3) := by decide +kernel
theorem dX5_blocksWith_45 : decode cX5_blocksWith 45 = .ok (.iload 4, 2) := by decide +kernel
theorem dX5_blocksWith_47 : decode cX5_blocksWith 47 = .ok (.ireturn, 1) := by decide +kernel
theorem dX5_copyTo_0 : decode cX5_copyTo 0 = .ok (.aload_n 0, 1) := by decide +kernel
theorem dX5_copyTo_1 : decode cX5_copyTo 1 = .ok (.getfield 9, 3) := by decide +kernel
theorem dX5_copyTo_4 : decode cX5_copyTo 4 = .ok (.aload_n 1, 1) := by decide +kernel
theorem dX5_copyTo_5 : decode cX5_copyTo 5 = .ok (.invokestatic 31, 3) := by decide +kernel
theorem dX5_copyTo_8 : decode cX5_copyTo 8 = .ok (.return_, 1) := by decide +kernel
theorem dX5_copyFrom_0 : decode cX5_copyFrom 0 = .ok (.aload_n 1, 1) := by decide +kernel
theorem dX5_copyFrom_1 : decode cX5_copyFrom 1 = .ok (.aload_n 0, 1) := by decide +kernel
theorem dX5_copyFrom_2 : decode cX5_copyFrom 2 = .ok (.getfield 9, 3) := by decide +kernel
theorem dX5_copyFrom_5 : decode cX5_copyFrom 5 = .ok (.invokestatic 31, 3) := by decide +kernel
theorem dX5_copyFrom_8 : decode cX5_copyFrom 8 = .ok (.return_, 1) := by decide +kernel
theorem dX6_init_0 : decode cX6_init 0 = .ok (.aload_n 0, 1) := by decide +kernel
theorem dX6_init_1 : decode cX6_init 1 = .ok (.invokespecial 3, 3) := by decide +kernel
theorem dX6_init_4 : decode cX6_init 4 = .ok (.aload_n 0, 1) := by decide +kernel
theorem dX6_init_5 : decode cX6_init 5 = .ok (.aload_n 1, 1) := by decide +kernel
theorem dX6_init_6 : decode cX6_init 6 = .ok (.putfield 9, 3) := by decide +kernel
theorem dX6_init_9 : decode cX6_init 9 = .ok (.aload_n 0, 1) := by decide +kernel
theorem dX6_init_10 : decode cX6_init 10 = .ok (.aload_n 2, 1) := by decide +kernel
theorem dX6_init_11 : decode cX6_init 11 = .ok (.putfield 15, 3) := by decide +kernel
theorem dX6_init_14 : decode cX6_init 14 = .ok (.return_, 1) := by decide +kernel
theorem dX6_changeSetting_0 : decode cX6_changeSetting 0 = .ok (.iload_n 1, 1) := by decide +kernel
theorem dX6_changeSetting_1 : decode cX6_changeSetting 1 = .ok (.ifCond .lt 19, 3) := by decide +kernel
theorem dX6_changeSetting_4 : decode cX6_changeSetting 4 = .ok (.iload_n 1, 1) := by decide +kernel
theorem dX6_changeSetting_5 : decode cX6_changeSetting 5 = .ok (.getstatic 19, 3) := by decide +kernel
theorem dX6_changeSetting_8 : decode cX6_changeSetting 8 = .ok (.arraylength, 1) := by decide +kernel
theorem dX6_changeSetting_9 : decode cX6_changeSetting 9 = .ok (.if_icmp .ge 11, 3) := by decide +kernel
theorem dX6_changeSetting_12 : decode cX6_changeSetting 12 = .ok (.iload_n 1, 1) := by decide +kernel
theorem dX6_changeSetting_13 : decode cX6_changeSetting 13 = .ok (.getstatic 23, 3) := by decide +kernel
theorem dX6_changeSetting_16 : decode cX6_changeSetting 16 = .ok (.arraylength, 1) := by decide +kernel
theorem dX6_changeSetting_17 : decode cX6_changeSetting 17 = .ok (.if_icmp .lt 6, 3) := by decide +kernel
theorem dX6_changeSetting_20 : decode cX6_changeSetting 20 = .ok (.bipush (-2), 2) := by decide +kernel
theorem dX6_changeSetting_22 : decode cX6_changeSetting 22 = .ok (.ireturn, 1) := by decide +kernel
theorem dX6_changeSetting_23 : decode cX6_changeSetting 23 = .ok (.iload_n 2, 1) := by decide +kernel
theorem dX6_changeSetting_24 : decode cX6_changeSetting 24 = .ok (.getstatic 19, 3) := by decide +kernel
theorem dX6_changeSetting_27 : decode cX6_changeSetting 27 = .ok (.iload_n 1, 1) := by decide +kernel
theorem dX6_changeSetting_28 : decode cX6_changeSetting 28 = .ok (.iaload, 1) := by decide +kernel
theorem dX6_changeSetting_29 : decode cX6_changeSetting 29 = .ok (.if_icmp .lt 12, 3) := by decide +kernel
theorem dX6_changeSetting_32 : decode cX6_changeSetting 32 = .ok (.iload_n 2, 1) := by decide +kernel
theorem dX6_changeSetting_33 : decode cX6_changeSetting 33 = .ok (.getstatic 23, 3) := by decide +kernel
theorem dX6_changeSetting_36 : decode cX6_changeSetting 36 = .ok (.iload_n 1, 1) := by decide +kernel
theorem dX6_changeSetting_37 : decode cX6_changeSetting 37 = .ok (.iaload, 1) := by decide +kernel
theorem dX6_changeSetting_38 : decode cX6_changeSetting 38 = .ok (.if_icmp .le 6, 3) := by decide +kernel
theorem dX6_changeSetting_41 : decode cX6_changeSetting 41 = .ok (.bipush (-2), 2) := by decide +kernel
theorem dX6_changeSetting_43 : decode cX6_changeSetting 43 = .ok (.ireturn, 1) := by decide +kernel
theorem dX6_changeSetting_44 : decode cX6_changeSetting 44 = .ok (.aload_n 0, 1) := by decide +kernel
theorem dX6_changeSetting_45 : decode cX6_changeSetting 45 = .ok (.getfield 9, 3) := by decide +kernel
theorem dX6_changeSetting_48 : decode cX6_changeSetting 48 = .ok (.iload_n 1, 1) := by decide +kernel
theorem dX6_changeSetting_49 : decode cX6_changeSetting 49 = .ok (.invokevirtual 26, 3) := by decide +kernel
theorem dX6_changeSetting_52 : decode cX6_changeSetting 52 = .ok (.istore_n 3, 1) := by decide +kernel
theorem dX6_changeSetting_53 : decode cX6_changeSetting 53 = .ok (.aload_n 0, 1) := by decide +kernel
theorem dX6_changeSetting_54 : decode cX6_changeSetting 54 = .ok (.getfield 9, 3) := by decide +kernel
theorem dX6_changeSetting_57 : decode cX6_changeSetting 57 = .ok (.iload_n 1, 1) := by decide +kernel
theorem dX6_changeSetting_58 : decode cX6_changeSetting 58 = .ok (.iload_n 2, 1) := by decide +kernel
theorem dX6_changeSetting_59 : decode cX6_changeSetting 59 = .ok (.invokevirtual 32, 3) := by decide +kernel
theorem dX6_changeSetting_62 : decode cX6_changeSetting 62 = .ok (.iload_n 3, 1) := by decide +kernel
theorem dX6_changeSetting_63 : decode cX6_changeSetting 63 = .ok (.bipush 100, 2) := by decide +kernel
theorem dX6_changeSetting_65 : decode cX6_changeSetting 65 = .ok (.iadd, 1) := by decide +kernel
theorem dX6_changeSetting_66 : decode cX6_changeSetting 66 = .ok (.ireturn, 1) := by decide +kernel
theorem dX6_quarryBlock_0 : decode cX6_quarryBlock 0 = .ok (.iload_n 1, 1) := by decide +kernel
theorem dX6_quarryBlock_1 : decode cX6_quarryBlock 1 = .ok (.invokestatic 36, 3) := by decide +kernel
theorem dX6_quarryBlock_4 : decode cX6_quarryBlock 4 = .ok (.ifCond .eq 31, 3) := by decide +kernel
theorem dX6_quarryBlock_7 : decode cX6_quarryBlock 7 = .ok (.iload_n 2, 1) := by decide +kernel
theorem dX6_quarryBlock_8 : decode cX6_quarryBlock 8 = .ok (.invokestatic 36, 3) := by decide +kernel
theorem dX6_quarryBlock_11 : decode cX6_quarryBlock 11 = .ok (.ifCond .eq 24, 3) := by decide +kernel
theorem dX6_quarryBlock_14 : decode cX6_quarryBlock 14 = .ok (.iload_n 3, 1) := by decide +kernel
theorem dX6_quarryBlock_15 : decode cX6_quarryBlock 15 = .ok (.invokestatic 36, 3) := by decide +kernel
theorem dX6_quarryBlock_18 : decode cX6_quarryBlock 18 = .ok (.ifCond .eq 17, 3) := by decide +kernel
theorem dX6_quarryBlock_21 : decode cX6_quarryBlock 21 = .ok (.iload 4, 2) := by decide +kernel
theorem dX6_quarryBlock_23 : decode cX6_quarryBlock 23 = .ok (.bipush 20, 2) := by decide +kernel
theorem dX6_quarryBlock_25 : decode cX6_quarryBlock 25 = .ok (.if_icmp .lt 10, 3) := by decide +kernel
theorem dX6_quarryBlock_28 : decode cX6_quarryBlock 28 = .ok (.iload 4, 2) := by decide +kernel
theorem dX6_quarryBlock_30 : decode cX6_quarryBlock 30 = .ok (.bipush 30, 2) := by decide +kernel
theorem dX6_quarryBlock_32 : decode cX6_quarryBlock 32 = .ok (.if_icmp .le 6, 3) := by decide +kernel
theorem dX6_quarryBlock_35 : decode cX6_quarryBlock 35 = .ok (.bipush (-2), 2) := by decide +kernel
theorem dX6_quarryBlock_37 : decode cX6_quarryBlock 37 = .ok (.ireturn, 1) := by decide +kernel
theorem dX6_quarryBlock_38 : decode cX6_quarryBlock 38 = .ok (.aload_n 0, 1) := by decide +kernel
theorem dX6_quarryBlock_39 : decode cX6_quarryBlock 39 = .ok (.getfield 9, 3) := by decide +kernel
theorem dX6_quarryBlock_42 : decode cX6_quarryBlock 42 = .ok (.bipush 6, 2) := by decide +kernel
theorem dX6_quarryBlock_44 : decode cX6_quarryBlock 44 = .ok (.invokevirtual 26, 3) := by decide +kernel
theorem dX6_quarryBlock_47 : decode cX6_quarryBlock 47 = .ok (.bipush 24, 2) := by decide +kernel
theorem dX6_quarryBlock_49 : decode cX6_quarryBlock 49 = .ok (.if_icmp .lt 8, 3) := by decide +kernel
theorem dX6_quarryBlock_52 : decode cX6_quarryBlock 52 = .ok (.bipush (-4), 2) := by decide +kernel
theorem dX6_quarryBlock_54 : decode cX6_quarryBlock 54 = .ok (.goto 12, 3) := by decide +kernel
theorem dX6_quarryBlock_57 : decode cX6_quarryBlock 57 = .ok (.aload_n 0, 1) := by decide +kernel
theorem dX6_quarryBlock_58 : decode cX6_quarryBlock 58 = .ok (.iload_n 1, 1) := by decide +kernel
theorem dX6_quarryBlock_59 : decode cX6_quarryBlock 59 = .ok (.iload_n 2, 1) := by decide +kernel
theorem dX6_quarryBlock_60 : decode cX6_quarryBlock 60 = .ok (.iload_n 3, 1) := by decide +kernel
theorem dX6_quarryBlock_61 : decode cX6_quarryBlock 61 = .ok (.iload 4, 2) := by decide +kernel
theorem dX6_quarryBlock_63 : decode cX6_quarryBlock 63 = .ok (.invokevirtual 40, 3) := by decide +kernel
theorem dX6_quarryBlock_66 : decode cX6_quarryBlock 66 = .ok (.ireturn, 1) := by decide +kernel
theorem dX6_addBlock_0 : decode cX6_addBlock 0 = .ok (.aload_n 0, 1) := by decide +kernel
theorem dX6_addBlock_1 : decode cX6_addBlock 1 = .ok (.getfield 9, 3) := by decide +kernel
theorem dX6_addBlock_4 : decode cX6_addBlock 4 = .ok (.bipush 6, 2) := by decide +kernel
theorem dX6_addBlock_6 : decode cX6_addBlock 6 = .ok (.invokevirtual 26, 3) := by decide +kernel
theorem dX6_addBlock_9 : decode cX6_addBlock 9 = .ok (.istore 5, 2) := by decide +kernel
theorem dX6_addBlock_11 : decode cX6_addBlock 11 = .ok (.aload_n 0, 1) := by decide +kernel
theorem dX6_addBlock_12 : decode cX6_addBlock 12 = .ok (.getfield 9, 3) := by decide +kernel
theorem dX6_addBlock_15 : decode cX6_addBlock 15 = .ok (.bipush 6, 2) := by decide +kernel
theorem dX6_addBlock_17 : decode cX6_addBlock 17 = .ok (.iload 5, 2) := by decide +kernel
theorem dX6_addBlock_19 : decode cX6_addBlock 19 = .ok (.iconst 1, 1) := by decide +kernel
theorem dX6_addBlock_20 : decode cX6_addBlock 20 = .ok (.iadd, 1) := by decide +kernel
theorem dX6_addBlock_21 : decode cX6_addBlock 21 = .ok (.invokevirtual 32, 3) := by decide +kernel
theorem dX6_addBlock_24 : decode cX6_addBlock 24 = .ok (.aload_n 0, 1) := by decide +kernel
theorem dX6_addBlock_25 : decode cX6_addBlock 25 = .ok (.getfield 9, 3) := by decide +kernel
theorem dX6_addBlock_28 : decode cX6_addBlock 28 = .ok (.iload 5, 2) := by decide +kernel
theorem dX6_addBlock_30 : decode cX6_addBlock 30 = .ok (.iconst 0, 1) := by decide +kernel
theorem dX6_addBlock_31 : decode cX6_addBlock 31 = .ok (.iload_n 1, 1) := by decide +kernel
theorem dX6_addBlock_32 : decode cX6_addBlock 32 = .ok (.invokevirtual 44, 3) := by decide +kernel
theorem dX6_addBlock_35 : decode cX6_addBlock 35 = .ok (.aload_n 0, 1) := by decide +kernel
theorem dX6_addBlock_36 : decode cX6_addBlock 36 = .ok (.getfield 9, 3) := by decide +kernel
theorem dX6_addBlock_39 : decode cX6_addBlock 39 = .ok (.iload 5, 2) := by decide +kernel
theorem dX6_addBlock_41 : decode cX6_addBlock 41 = .ok (.iconst 1, 1) := by decide +kernel
theorem dX6_addBlock_42 : decode cX6_addBlock 42 = .ok (.iload_n 2, 1) := by decide +kernel
theorem dX6_addBlock_43 : decode cX6_addBlock 43 = .ok (.invokevirtual 44, 3) := by decide +kernel
theorem dX6_addBlock_46 : decode cX6_addBlock 46 = .ok (.aload_n 0, 1) := by decide +kernel
theorem dX6_addBlock_47 : decode cX6_addBlock 47 = .ok (.getfield 9, 3) := by decide +kernel
theorem dX6_addBlock_50 : decode cX6_addBlock 50 = .ok (.iload 5, 2) := by decide +kernel
theorem dX6_addBlock_52 : decode cX6_addBlock 52 = .ok (.iconst 2, 1) := by decide +kernel
theorem dX6_addBlock_53 : decode cX6_addBlock 53 = .ok (.iload_n 3, 1) := by decide +kernel
theorem dX6_addBlock_54 : decode cX6_addBlock 54 = .ok (.invokevirtual 44, 3) := by decide +kernel
theorem dX6_addBlock_57 : decode cX6_addBlock 57 = .ok (.aload_n 0, 1) := by decide +kernel
theorem dX6_addBlock_58 : decode cX6_addBlock 58 = .ok (.getfield 9, 3) := by decide +kernel
theorem dX6_addBlock_61 : decode cX6_addBlock 61 = .ok (.iload 5, 2) := by decide +kernel
theorem dX6_addBlock_63 : decode cX6_addBlock 63 = .ok (.iconst 3, 1) := by decide +kernel
theorem dX6_addBlock_64 : decode cX6_addBlock 64 = .ok (.iload 4, 2) := by decide +kernel
theorem dX6_addBlock_66 : decode cX6_addBlock 66 = .ok (.invokevirtual 44, 3) := by decide +kernel
theorem dX6_addBlock_69 : decode cX6_addBlock 69 = .ok (.aload_n 0, 1) := by decide +kernel
theorem dX6_addBlock_70 : decode cX6_addBlock 70 = .ok (.getfield 9, 3) := by decide +kernel
theorem dX6_addBlock_73 : decode cX6_addBlock 73 = .ok (.iload 5, 2) := by decide +kernel
theorem dX6_addBlock_75 : decode cX6_addBlock 75 = .ok (.iconst 4, 1) := by decide +kernel
theorem dX6_addBlock_76 : decode cX6_addBlock 76 = .ok (.iload_n 1, 1) := by decide +kernel
theorem dX6_addBlock_77 : decode cX6_addBlock 77 = .ok (.iload_n 2, 1) := by decide +kernel
theorem dX6_addBlock_78 : decode cX6_addBlock 78 = .ok (.imul, 1) := by decide +kernel
theorem dX6_addBlock_79 : decode cX6_addBlock 79 = .ok (.iload_n 3, 1) := by decide +kernel
theorem dX6_addBlock_80 : decode cX6_addBlock 80 = .ok (.imul, 1) := by decide +kernel
theorem dX6_addBlock_81 : decode cX6_addBlock 81 = .ok (.iload 4, 2) := by decide +kernel
theorem dX6_addBlock_83 : decode cX6_addBlock 83 = .ok (.imul, 1) := by decide +kernel
theorem dX6_addBlock_84 : decode cX6_addBlock 84 = .ok (.sipush 10000, 3) := by decide +kernel
theorem dX6_addBlock_87 : decode cX6_addBlock 87 = .ok (.idiv, 1) := by decide +kernel
theorem dX6_addBlock_88 : decode cX6_addBlock 88 = .ok (.invokevirtual 44, 3) := by decide +kernel
theorem dX6_addBlock_91 : decode cX6_addBlock 91 = .ok (.aload_n 0, 1) := by decide +kernel
theorem dX6_addBlock_92 : decode cX6_addBlock 92 = .ok (.getfield 9, 3) := by decide +kernel
theorem dX6_addBlock_95 : decode cX6_addBlock 95 = .ok (.iload 5, 2) := by decide +kernel
theorem dX6_addBlock_97 : decode cX6_addBlock 97 = .ok (.iconst 5, 1) := by decide +kernel
theorem dX6_addBlock_98 : decode cX6_addBlock 98 = .ok (.iconst 0, 1) := by decide +kernel
theorem dX6_addBlock_99 : decode cX6_addBlock 99 = .ok (.invokevirtual 44, 3) := by decide +kernel
theorem dX6_addBlock_102 : decode cX6_addBlock 102 = .ok (.aload_n 0, 1) := by decide +kernel
theorem dX6_addBlock_103 : decode cX6_addBlock 103 = .ok (.getfield 9, 3) := by decide +kernel
theorem dX6_addBlock_106 : decode cX6_addBlock 106 = .ok (.iload 5, 2) := by decide +kernel
theorem dX6_addBlock_108 : decode cX6_addBlock 108 = .ok (.bipush 6, 2) := by decide +kernel
theorem dX6_addBlock_110 : decode cX6_addBlock 110 = .ok (.iconst 3, 1) := by decide +kernel
theorem dX6_addBlock_111 : decode cX6_addBlock 111 = .ok (.invokevirtual 44, 3) := by decide +kernel
theorem dX6_addBlock_114 : decode cX6_addBlock 114 = .ok (.aload_n 0, 1) := by decide +kernel
theorem dX6_addBlock_115 : decode cX6_addBlock 115 = .ok (.getfield 9, 3) := by decide +kernel
theorem dX6_addBlock_118 : decode cX6_addBlock 118 = .ok (.iload 5, 2) := by decide +kernel
theorem dX6_addBlock_120 : decode cX6_addBlock 120 = .ok (.bipush 7, 2) := by decide +kernel
theorem dX6_addBlock_122 : decode cX6_addBlock 122 = .ok (.iconst 0, 1) := by decide +kernel
theorem dX6_addBlock_123 : decode cX6_addBlock 123 = .ok (.invokevirtual 44, 3) := by decide +kernel
theorem dX6_addBlock_126 : decode cX6_addBlock 126 = .ok (.aload_n 0, 1) := by decide +kernel
theorem dX6_addBlock_127 : decode cX6_addBlock 127 = .ok (.getfield 9, 3) := by decide +kernel
theorem dX6_addBlock_130 : decode cX6_addBlock 130 = .ok (.iload 5, 2) := by decide +kernel
theorem dX6_addBlock_132 : decode cX6_addBlock 132 = .ok (.bipush 8, 2) := by decide +kernel
theorem dX6_addBlock_134 : decode cX6_addBlock 134 = .ok (.bipush (-6), 2) := by decide +kernel
theorem dX6_addBlock_136 : decode cX6_addBlock 136 = .ok (.invokevirtual 44, 3) := by decide +kernel
theorem dX6_addBlock_139 : decode cX6_addBlock 139 = .ok (.aload_n 0, 1) := by decide +kernel
theorem dX6_addBlock_140 : decode cX6_addBlock 140 = .ok (.getfield 9, 3) := by decide +kernel
theorem dX6_addBlock_143 : decode cX6_addBlock 143 = .ok (.iload 5, 2) := by decide +kernel
theorem dX6_addBlock_145 : decode cX6_addBlock 145 = .ok (.bipush 9, 2) := by decide +kernel
theorem dX6_addBlock_147 : decode cX6_addBlock 147 = .ok (.bipush (-6), 2) := by decide +kernel
theorem dX6_addBlock_149 : decode cX6_addBlock 149 = .ok (.invokevirtual 44, 3) := by decide +kernel
theorem dX6_addBlock_152 : decode cX6_addBlock 152 = .ok (.aload_n 0, 1) := by decide +kernel
theorem dX6_addBlock_153 : decode cX6_addBlock 153 = .ok (.getfield 9, 3) := by decide +kernel
theorem dX6_addBlock_156 : decode cX6_addBlock 156 = .ok (.iload 5, 2) := by decide +kernel
theorem dX6_addBlock_158 : decode cX6_addBlock 158 = .ok (.bipush 10, 2) := by decide +kernel
theorem dX6_addBlock_160 : decode cX6_addBlock 160 = .ok (.bipush (-6), 2) := by decide +kernel
theorem dX6_addBlock_162 : decode cX6_addBlock 162 = .ok (.invokevirtual 44, 3) := by decide +kernel
theorem dX6_addBlock_165 : decode cX6_addBlock 165 = .ok (.iload 5, 2) := by decide +kernel
theorem dX6_addBlock_167 : decode cX6_addBlock 167 = .ok (.ireturn, 1) := by decide +kernel
theorem dX6_cutBlock_0 : decode cX6_cutBlock 0 = .ok (.aload_n 0, 1) := by decide +kernel
theorem dX6_cutBlock_1 : decode cX6_cutBlock 1 = .ok (.getfield 9, 3) := by decide +kernel
theorem dX6_cutBlock_4 : decode cX6_cutBlock 4 = .ok (.iload_n 1, 1) := by decide +kernel
theorem dX6_cutBlock_5 : decode cX6_cutBlock 5 = .ok (.invokevirtual 48, 3) := by decide +kernel
theorem dX6_cutBlock_8 : decode cX6_cutBlock 8 = .ok (.ifCond .ne 5, 3) := by decide +kernel
theorem dX6_cutBlock_11 : decode cX6_cutBlock 11 = .ok (.iconst (-1), 1) := by decide +kernel
theorem dX6_cutBlock_12 : decode cX6_cutBlock 12 = .ok (.ireturn, 1) := by decide +kernel
theorem dX6_cutBlock_13 : decode cX6_cutBlock 13 = .ok (.iload_n 2, 1) := by decide +kernel
theorem dX6_cutBlock_14 : decode cX6_cutBlock 14 = .ok (.ifCond .lt 15, 3) := by decide +kernel
theorem dX6_cutBlock_17 : decode cX6_cutBlock 17 = .ok (.iload_n 2, 1) := by decide +kernel
theorem dX6_cutBlock_18 : decode cX6_cutBlock 18 = .ok (.iconst 3, 1) := by decide +kernel
theorem dX6_cutBlock_19 : decode cX6_cutBlock 19 = .ok (.if_icmp .ge 10, 3) := by decide +kernel
theorem dX6_cutBlock_22 : decode cX6_cutBlock 22 = .ok (.iload_n 3, 1) := by decide +kernel
theorem dX6_cutBlock_23 : decode cX6_cutBlock 23 = .ok (.invokestatic 36, 3) := by decide +kernel
theorem dX6_cutBlock_26 : decode cX6_cutBlock 26 = .ok (.ifCond .ne 6, 3) := by decide +kernel
theorem dX6_cutBlock_29 : decode cX6_cutBlock 29 = .ok (.bipush (-2), 2) := by decide +kernel
theorem dX6_cutBlock_31 : decode cX6_cutBlock 31 = .ok (.ireturn, 1) := by decide +kernel
theorem dX6_cutBlock_32 : decode cX6_cutBlock 32 = .ok (.aload_n 0, 1) := by decide +kernel
theorem dX6_cutBlock_33 : decode cX6_cutBlock 33 = .ok (.getfield 9, 3) := by decide +kernel
theorem dX6_cutBlock_36 : decode cX6_cutBlock 36 = .ok (.iload_n 1, 1) := by decide +kernel
theorem dX6_cutBlock_37 : decode cX6_cutBlock 37 = .ok (.iload_n 2, 1) := by decide +kernel
theorem dX6_cutBlock_38 : decode cX6_cutBlock 38 = .ok (.invokevirtual 51, 3) := by decide +kernel
theorem dX6_cutBlock_41 : decode cX6_cutBlock 41 = .ok (.iload_n 3, 1) := by decide +kernel
theorem dX6_cutBlock_42 : decode cX6_cutBlock 42 = .ok (.isub, 1) := by decide +kernel
theorem dX6_cutBlock_43 : decode cX6_cutBlock 43 = .ok (.aload_n 0, 1) := by decide +kernel
theorem dX6_cutBlock_44 : decode cX6_cutBlock 44 = .ok (.getfield 9, 3) := by decide +kernel
theorem dX6_cutBlock_47 : decode cX6_cutBlock 47 = .ok (.iconst 0, 1) := by decide +kernel
theorem dX6_cutBlock_48 : decode cX6_cutBlock 48 = .ok (.invokevirtual 26, 3) := by decide +kernel
theorem dX6_cutBlock_51 : decode cX6_cutBlock 51 = .ok (.isub, 1) := by decide +kernel
theorem dX6_cutBlock_52 : decode cX6_cutBlock 52 = .ok (.istore 4, 2) := by decide +kernel
theorem dX6_cutBlock_54 : decode cX6_cutBlock 54 = .ok (.aload_n 0, 1) := by decide +kernel
theorem dX6_cutBlock_55 : decode cX6_cutBlock 55 = .ok (.getfield 15, 3) := by decide +kernel
theorem dX6_cutBlock_58 : decode cX6_cutBlock 58 = .ok (.iload_n 1, 1) := by decide +kernel
theorem dX6_cutBlock_59 : decode cX6_cutBlock 59 = .ok (.invokevirtual 55, 3) := by decide +kernel
theorem dX6_cutBlock_62 : decode cX6_cutBlock 62 = .ok (.ifCond .eq 9, 3) := by decide +kernel
theorem dX6_cutBlock_65 : decode cX6_cutBlock 65 = .ok (.iload 4, 2) := by decide +kernel
theorem dX6_cutBlock_67 : decode cX6_cutBlock 67 = .ok (.iconst 1, 1) := by decide +kernel
theorem dX6_cutBlock_68 : decode cX6_cutBlock 68 = .ok (.if_icmp .ge 6, 3) := by decide +kernel
theorem dX6_cutBlock_71 : decode cX6_cutBlock 71 = .ok (.bipush (-5), 2) := by decide +kernel
theorem dX6_cutBlock_73 : decode cX6_cutBlock 73 = .ok (.ireturn, 1) := by decide +kernel
theorem dX6_cutBlock_74 : decode cX6_cutBlock 74 = .ok (.aload_n 0, 1) := by decide +kernel
theorem dX6_cutBlock_75 : decode cX6_cutBlock 75 = .ok (.getfield 9, 3) := by decide +kernel
theorem dX6_cutBlock_78 : decode cX6_cutBlock 78 = .ok (.bipush 6, 2) := by decide +kernel
theorem dX6_cutBlock_80 : decode cX6_cutBlock 80 = .ok (.invokevirtual 26, 3) := by decide +kernel
theorem dX6_cutBlock_83 : decode cX6_cutBlock 83 = .ok (.iconst 2, 1) := by decide +kernel
theorem dX6_cutBlock_84 : decode cX6_cutBlock 84 = .ok (.iadd, 1) := by decide +kernel
theorem dX6_cutBlock_85 : decode cX6_cutBlock 85 = .ok (.bipush 24, 2) := by decide +kernel
theorem dX6_cutBlock_87 : decode cX6_cutBlock 87 = .ok (.if_icmp .le 6, 3) := by decide +kernel
theorem dX6_cutBlock_90 : decode cX6_cutBlock 90 = .ok (.bipush (-4), 2) := by decide +kernel
theorem dX6_cutBlock_92 : decode cX6_cutBlock 92 = .ok (.ireturn, 1) := by decide +kernel
theorem dX6_cutBlock_93 : decode cX6_cutBlock 93 = .ok (.aload_n 0, 1) := by decide +kernel
theorem dX6_cutBlock_94 : decode cX6_cutBlock 94 = .ok (.getfield 9, 3) := by decide +kernel
theorem dX6_cutBlock_97 : decode cX6_cutBlock 97 = .ok (.iload_n 1, 1) := by decide +kernel
theorem dX6_cutBlock_98 : decode cX6_cutBlock 98 = .ok (.iconst 5, 1) := by decide +kernel
theorem dX6_cutBlock_99 : decode cX6_cutBlock 99 = .ok (.invokevirtual 51, 3) := by decide +kernel
theorem dX6_cutBlock_102 : decode cX6_cutBlock 102 = .ok (.iconst 1, 1) := by decide +kernel
theorem dX6_cutBlock_103 : decode cX6_cutBlock 103 = .ok (.if_icmp .ne 7, 3) := by decide +kernel
theorem dX6_cutBlock_106 : decode cX6_cutBlock 106 = .ok (.iconst 1, 1) := by decide +kernel
theorem dX6_cutBlock_107 : decode cX6_cutBlock 107 = .ok (.goto 4, 3) := by decide +kernel
theorem dX6_cutBlock_110 : decode cX6_cutBlock 110 = .ok (.iconst 0, 1) := by decide +kernel
theorem dX6_cutBlock_111 : decode cX6_cutBlock 111 = .ok (.istore 5, 2) := by decide +kernel
theorem dX6_cutBlock_113 : decode cX6_cutBlock 113 = .ok (.aload_n 0, 1) := by decide +kernel
theorem dX6_cutBlock_114 : decode cX6_cutBlock 114 = .ok (.getfield 9, 3) := by decide +kernel
theorem dX6_cutBlock_117 : decode cX6_cutBlock 117 = .ok (.iload_n 1, 1) := by decide +kernel
theorem dX6_cutBlock_118 : decode cX6_cutBlock 118 = .ok (.iconst 5, 1) := by decide +kernel
theorem dX6_cutBlock_119 : decode cX6_cutBlock 119 = .ok (.iconst 4, 1) := by decide +kernel
theorem dX6_cutBlock_120 : decode cX6_cutBlock 120 = .ok (.invokevirtual 44, 3) := by decide +kernel
theorem dX6_cutBlock_123 : decode cX6_cutBlock 123 = .ok (.aload_n 0, 1) := by decide +kernel
theorem dX6_cutBlock_124 : decode cX6_cutBlock 124 = .ok (.iload_n 1, 1) := by decide +kernel
theorem dX6_cutBlock_125 : decode cX6_cutBlock 125 = .ok (.iload_n 2, 1) := by decide +kernel
theorem dX6_cutBlock_126 : decode cX6_cutBlock 126 = .ok (.iload_n 3, 1) := by decide +kernel
theorem dX6_cutBlock_127 : decode cX6_cutBlock 127 = .ok (.iload 5, 2) := by decide +kernel
theorem dX6_cutBlock_129 : decode cX6_cutBlock 129 = .ok (.invokevirtual 60, 3) := by decide +kernel
theorem dX6_cutBlock_132 : decode cX6_cutBlock 132 = .ok (.istore 6, 2) := by decide +kernel
theorem dX6_cutBlock_134 : decode cX6_cutBlock 134 = .ok (.aload_n 0, 1) := by decide +kernel
theorem dX6_cutBlock_135 : decode cX6_cutBlock 135 = .ok (.iload_n 1, 1) := by decide +kernel
theorem dX6_cutBlock_136 : decode cX6_cutBlock 136 = .ok (.iload_n 2, 1) := by decide +kernel
theorem dX6_cutBlock_137 : decode cX6_cutBlock 137 = .ok (.iload 4, 2) := by decide +kernel
theorem dX6_cutBlock_139 : decode cX6_cutBlock 139 = .ok (.iload 5, 2) := by decide +kernel
theorem dX6_cutBlock_141 : decode cX6_cutBlock 141 = .ok (.invokevirtual 60, 3) := by decide +kernel
theorem dX6_cutBlock_144 : decode cX6_cutBlock 144 = .ok (.pop, 1) := by decide +kernel
theorem dX6_cutBlock_145 : decode cX6_cutBlock 145 = .ok (.iload 6, 2) := by decide +kernel
theorem dX6_cutBlock_147 : decode cX6_cutBlock 147 = .ok (.ireturn, 1) := by decide +kernel
theorem dX6_addPiece_0 : decode cX6_addPiece 0 = .ok (.iload_n 2, 1) := by decide +kernel
theorem dX6_addPiece_1 : decode cX6_addPiece 1 = .ok (.ifCond .ne 7, 3) := by decide +kernel
theorem dX6_addPiece_4 : decode cX6_addPiece 4 = .ok (.iload_n 3, 1) := by decide +kernel
theorem dX6_addPiece_5 : decode cX6_addPiece 5 = .ok (.goto 12, 3) := by decide +kernel
theorem dX6_addPiece_8 : decode cX6_addPiece 8 = .ok (.aload_n 0, 1) := by decide +kernel
theorem dX6_addPiece_9 : decode cX6_addPiece 9 = .ok (.getfield 9, 3) := by decide +kernel
theorem dX6_addPiece_12 : decode cX6_addPiece 12 = .ok (.iload_n 1, 1) := by decide +kernel
theorem dX6_addPiece_13 : decode cX6_addPiece 13 = .ok (.iconst 0, 1) := by decide +kernel
theorem dX6_addPiece_14 : decode cX6_addPiece 14 = .ok (.invokevirtual 51, 3) := by decide +kernel
theorem dX6_addPiece_17 : decode cX6_addPiece 17 = .ok (.istore 5, 2) := by decide +kernel
theorem dX6_addPiece_19 : decode cX6_addPiece 19 = .ok (.iload_n 2, 1) := by decide +kernel
theorem dX6_addPiece_20 : decode cX6_addPiece 20 = .ok (.iconst 1, 1) := by decide +kernel
theorem dX6_addPiece_21 : decode cX6_addPiece 21 = .ok (.if_icmp .ne 7, 3) := by decide +kernel
theorem dX6_addPiece_24 : decode cX6_addPiece 24 = .ok (.iload_n 3, 1) := by decide +kernel
theorem dX6_addPiece_25 : decode cX6_addPiece 25 = .ok (.goto 12, 3) := by decide +kernel
theorem dX6_addPiece_28 : decode cX6_addPiece 28 = .ok (.aload_n 0, 1) := by decide +kernel
theorem dX6_addPiece_29 : decode cX6_addPiece 29 = .ok (.getfield 9, 3) := by decide +kernel
theorem dX6_addPiece_32 : decode cX6_addPiece 32 = .ok (.iload_n 1, 1) := by decide +kernel
theorem dX6_addPiece_33 : decode cX6_addPiece 33 = .ok (.iconst 1, 1) := by decide +kernel
theorem dX6_addPiece_34 : decode cX6_addPiece 34 = .ok (.invokevirtual 51, 3) := by decide +kernel
theorem dX6_addPiece_37 : decode cX6_addPiece 37 = .ok (.istore 6, 2) := by decide +kernel
theorem dX6_addPiece_39 : decode cX6_addPiece 39 = .ok (.iload_n 2, 1) := by decide +kernel
theorem dX6_addPiece_40 : decode cX6_addPiece 40 = .ok (.iconst 2, 1) := by decide +kernel
theorem dX6_addPiece_41 : decode cX6_addPiece 41 = .ok (.if_icmp .ne 7, 3) := by decide +kernel
theorem dX6_addPiece_44 : decode cX6_addPiece 44 = .ok (.iload_n 3, 1) := by decide +kernel
theorem dX6_addPiece_45 : decode cX6_addPiece 45 = .ok (.goto 12, 3) := by decide +kernel
theorem dX6_addPiece_48 : decode cX6_addPiece 48 = .ok (.aload_n 0, 1) := by decide +kernel
theorem dX6_addPiece_49 : decode cX6_addPiece 49 = .ok (.getfield 9, 3) := by decide +kernel
theorem dX6_addPiece_52 : decode cX6_addPiece 52 = .ok (.iload_n 1, 1) := by decide +kernel
theorem dX6_addPiece_53 : decode cX6_addPiece 53 = .ok (.iconst 2, 1) := by decide +kernel
theorem dX6_addPiece_54 : decode cX6_addPiece 54 = .ok (.invokevirtual 51, 3) := by decide +kernel
theorem dX6_addPiece_57 : decode cX6_addPiece 57 = .ok (.istore 7, 2) := by decide +kernel
theorem dX6_addPiece_59 : decode cX6_addPiece 59 = .ok (.aload_n 0, 1) := by decide +kernel
theorem dX6_addPiece_60 : decode cX6_addPiece 60 = .ok (.iload 5, 2) := by decide +kernel
theorem dX6_addPiece_62 : decode cX6_addPiece 62 = .ok (.iload 6, 2) := by decide +kernel
theorem dX6_addPiece_64 : decode cX6_addPiece 64 = .ok (.iload 7, 2) := by decide +kernel
theorem dX6_addPiece_66 : decode cX6_addPiece 66 = .ok (.aload_n 0, 1) := by decide +kernel
theorem dX6_addPiece_67 : decode cX6_addPiece 67 = .ok (.getfield 9, 3) := by decide +kernel
theorem dX6_addPiece_70 : decode cX6_addPiece 70 = .ok (.iload_n 1, 1) := by decide +kernel
theorem dX6_addPiece_71 : decode cX6_addPiece 71 = .ok (.iconst 3, 1) := by decide +kernel
theorem dX6_addPiece_72 : decode cX6_addPiece 72 = .ok (.invokevirtual 51, 3) := by decide +kernel
theorem dX6_addPiece_75 : decode cX6_addPiece 75 = .ok (.invokevirtual 40, 3) := by decide +kernel
theorem dX6_addPiece_78 : decode cX6_addPiece 78 = .ok (.istore 8, 2) := by decide +kernel
theorem dX6_addPiece_80 : decode cX6_addPiece 80 = .ok (.iload 4, 2) := by decide +kernel
theorem dX6_addPiece_82 : decode cX6_addPiece 82 = .ok (.ifCond .eq 24, 3) := by decide +kernel
theorem dX6_addPiece_85 : decode cX6_addPiece 85 = .ok (.aload_n 0, 1) := by decide +kernel
theorem dX6_addPiece_86 : decode cX6_addPiece 86 = .ok (.getfield 15, 3) := by decide +kernel
theorem dX6_addPiece_89 : decode cX6_addPiece 89 = .ok (.invokevirtual 64, 3) := by decide +kernel
theorem dX6_addPiece_92 : decode cX6_addPiece 92 = .ok (.ifCond .eq 14, 3) := by decide +kernel
theorem dX6_addPiece_95 : decode cX6_addPiece 95 = .ok (.aload_n 0, 1) := by decide +kernel
theorem dX6_addPiece_96 : decode cX6_addPiece 96 = .ok (.getfield 9, 3) := by decide +kernel
theorem dX6_addPiece_99 : decode cX6_addPiece 99 = .ok (.iload 8, 2) := by decide +kernel
theorem dX6_addPiece_101 : decode cX6_addPiece 101 = .ok (.iconst 5, 1) := by decide +kernel
theorem dX6_addPiece_102 : decode cX6_addPiece 102 = .ok (.iconst 1, 1) := by decide +kernel
theorem dX6_addPiece_103 : decode cX6_addPiece 103 = .ok (.invokevirtual 44, 3) := by decide +kernel
theorem dX6_addPiece_106 : decode cX6_addPiece 106 = .ok (.aload_n 0, 1) := by decide +kernel
theorem dX6_addPiece_107 : decode cX6_addPiece 107 = .ok (.getfield 9, 3) := by decide +kernel
theorem dX6_addPiece_110 : decode cX6_addPiece 110 = .ok (.iload 8, 2) := by decide +kernel
theorem dX6_addPiece_112 : decode cX6_addPiece 112 = .ok (.bipush 6, 2) := by decide +kernel
theorem dX6_addPiece_114 : decode cX6_addPiece 114 = .ok (.aload_n 0, 1) := by decide +kernel
theorem dX6_addPiece_115 : decode cX6_addPiece 115 = .ok (.getfield 9, 3) := by decide +kernel
theorem dX6_addPiece_118 : decode cX6_addPiece 118 = .ok (.iload_n 1, 1) := by decide +kernel
theorem dX6_addPiece_119 : decode cX6_addPiece 119 = .ok (.bipush 6, 2) := by decide +kernel
theorem dX6_addPiece_121 : decode cX6_addPiece 121 = .ok (.invokevirtual 51, 3) := by decide +kernel
theorem dX6_addPiece_124 : decode cX6_addPiece 124 = .ok (.invokevirtual 44, 3) := by decide +kernel
theorem dX6_addPiece_127 : decode cX6_addPiece 127 = .ok (.aload_n 0, 1) := by decide +kernel
theorem dX6_addPiece_128 : decode cX6_addPiece 128 = .ok (.getfield 9, 3) := by decide +kernel
theorem dX6_addPiece_131 : decode cX6_addPiece 131 = .ok (.iload 8, 2) := by decide +kernel
theorem dX6_addPiece_133 : decode cX6_addPiece 133 = .ok (.bipush 7, 2) := by decide +kernel
theorem dX6_addPiece_135 : decode cX6_addPiece 135 = .ok (.aload_n 0, 1) := by decide +kernel
theorem dX6_addPiece_136 : decode cX6_addPiece 136 = .ok (.getfield 9, 3) := by decide +kernel
theorem dX6_addPiece_139 : decode cX6_addPiece 139 = .ok (.iload_n 1, 1) := by decide +kernel
theorem dX6_addPiece_140 : decode cX6_addPiece 140 = .ok (.bipush 7, 2) := by decide +kernel
theorem dX6_addPiece_142 : decode cX6_addPiece 142 = .ok (.invokevirtual 51, 3) := by decide +kernel
theorem dX6_addPiece_145 : decode cX6_addPiece 145 = .ok (.invokevirtual 44, 3) := by decide +kernel
theorem dX6_addPiece_148 : decode cX6_addPiece 148 = .ok (.aload_n 0, 1) := by decide +kernel
theorem dX6_addPiece_149 : decode cX6_addPiece 149 = .ok (.getfield 9, 3) := by decide +kernel
theorem dX6_addPiece_152 : decode cX6_addPiece 152 = .ok (.iload 8, 2) := by decide +kernel
theorem dX6_addPiece_154 : decode cX6_addPiece 154 = .ok (.bipush 10, 2) := by decide +kernel
theorem dX6_addPiece_156 : decode cX6_addPiece 156 = .ok (.iload_n 1, 1) := by decide +kernel
theorem dX6_addPiece_157 : decode cX6_addPiece 157 = .ok (.invokevirtual 44, 3) := by decide +kernel
theorem dX6_addPiece_160 : decode cX6_addPiece 160 = .ok (.iload 8, 2) := by decide +kernel
theorem dX6_addPiece_162 : decode cX6_addPiece 162 = .ok (.ireturn, 1) := by decide +kernel
theorem dX6_moveBlock_0 : decode cX6_moveBlock 0 = .ok (.aload_n 0, 1) := by decide +kernel
theorem dX6_moveBlock_1 : decode cX6_moveBlock 1 = .ok (.getfield 9, 3) := by decide +kernel
theorem dX6_moveBlock_4 : decode cX6_moveBlock 4 = .ok (.iload_n 1, 1) := by decide +kernel
theorem dX6_moveBlock_5 : decode cX6_moveBlock 5 = .ok (.invokevirtual 48, 3) := by decide +kernel
theorem dX6_moveBlock_8 : decode cX6_moveBlock 8 = .ok (.ifCond .ne 5, 3) := by decide +kernel
theorem dX6_moveBlock_11 : decode cX6_moveBlock 11 = .ok (.iconst (-1), 1) := by decide +kernel
theorem dX6_moveBlock_12 : decode cX6_moveBlock 12 = .ok (.ireturn, 1) := by decide +kernel
theorem dX6_moveBlock_13 : decode cX6_moveBlock 13 = .ok (.aload_n 0, 1) := by decide +kernel
theorem dX6_moveBlock_14 : decode cX6_moveBlock 14 = .ok (.getfield 15, 3) := by decide +kernel
theorem dX6_moveBlock_17 : decode cX6_moveBlock 17 = .ok (.iload_n 1, 1) := by decide +kernel
theorem dX6_moveBlock_18 : decode cX6_moveBlock 18 = .ok (.invokevirtual 68, 3) := by decide +kernel
theorem dX6_moveBlock_21 : decode cX6_moveBlock 21 = .ok (.ifCond .ne 6, 3) := by decide +kernel
theorem dX6_moveBlock_24 : decode cX6_moveBlock 24 = .ok (.bipush (-5), 2) := by decide +kernel
theorem dX6_moveBlock_26 : decode cX6_moveBlock 26 = .ok (.ireturn, 1) := by decide +kernel
theorem dX6_moveBlock_27 : decode cX6_moveBlock 27 = .ok (.aload_n 0, 1) := by decide +kernel
theorem dX6_moveBlock_28 : decode cX6_moveBlock 28 = .ok (.getfield 9, 3) := by decide +kernel
theorem dX6_moveBlock_31 : decode cX6_moveBlock 31 = .ok (.iload_n 1, 1) := by decide +kernel
theorem dX6_moveBlock_32 : decode cX6_moveBlock 32 = .ok (.iconst 5, 1) := by decide +kernel
theorem dX6_moveBlock_33 : decode cX6_moveBlock 33 = .ok (.invokevirtual 51, 3) := by decide +kernel
theorem dX6_moveBlock_36 : decode cX6_moveBlock 36 = .ok (.ifCond .ne 16, 3) := by decide +kernel
theorem dX6_moveBlock_39 : decode cX6_moveBlock 39 = .ok (.aload_n 0, 1) := by decide +kernel
theorem dX6_moveBlock_40 : decode cX6_moveBlock 40 = .ok (.getfield 15, 3) := by decide +kernel
theorem dX6_moveBlock_43 : decode cX6_moveBlock 43 = .ok (.invokevirtual 64, 3) := by decide +kernel
theorem dX6_moveBlock_46 : decode cX6_moveBlock 46 = .ok (.ifCond .ne 6, 3) := by decide +kernel
theorem dX6_moveBlock_49 : decode cX6_moveBlock 49 = .ok (.bipush (-4), 2) := by decide +kernel
theorem dX6_moveBlock_51 : decode cX6_moveBlock 51 = .ok (.ireturn, 1) := by decide +kernel
theorem dX6_moveBlock_52 : decode cX6_moveBlock 52 = .ok (.aload_n 0, 1) := by decide +kernel
theorem dX6_moveBlock_53 : decode cX6_moveBlock 53 = .ok (.getfield 9, 3) := by decide +kernel
theorem dX6_moveBlock_56 : decode cX6_moveBlock 56 = .ok (.iload_n 1, 1) := by decide +kernel
theorem dX6_moveBlock_57 : decode cX6_moveBlock 57 = .ok (.iconst 5, 1) := by decide +kernel
theorem dX6_moveBlock_58 : decode cX6_moveBlock 58 = .ok (.invokevirtual 51, 3) := by decide +kernel
theorem dX6_moveBlock_61 : decode cX6_moveBlock 61 = .ok (.ifCond .ne 7, 3) := by decide +kernel
theorem dX6_moveBlock_64 : decode cX6_moveBlock 64 = .ok (.iconst 1, 1) := by decide +kernel
theorem dX6_moveBlock_65 : decode cX6_moveBlock 65 = .ok (.goto 4, 3) := by decide +kernel
theorem dX6_moveBlock_68 : decode cX6_moveBlock 68 = .ok (.iconst 0, 1) := by decide +kernel
theorem dX6_moveBlock_69 : decode cX6_moveBlock 69 = .ok (.istore_n 2, 1) := by decide +kernel
theorem dX6_moveBlock_70 : decode cX6_moveBlock 70 = .ok (.aload_n 0, 1) := by decide +kernel
theorem dX6_moveBlock_71 : decode cX6_moveBlock 71 = .ok (.getfield 9, 3) := by decide +kernel
theorem dX6_moveBlock_74 : decode cX6_moveBlock 74 = .ok (.iload_n 1, 1) := by decide +kernel
theorem dX6_moveBlock_75 : decode cX6_moveBlock 75 = .ok (.iconst 5, 1) := by decide +kernel
theorem dX6_moveBlock_76 : decode cX6_moveBlock 76 = .ok (.iload_n 2, 1) := by decide +kernel
theorem dX6_moveBlock_77 : decode cX6_moveBlock 77 = .ok (.invokevirtual 44, 3) := by decide +kernel
theorem dX6_moveBlock_80 : decode cX6_moveBlock 80 = .ok (.iload_n 2, 1) := by decide +kernel
theorem dX6_moveBlock_81 : decode cX6_moveBlock 81 = .ok (.ireturn, 1) := by decide +kernel
theorem dX6_takeOrder_0 : decode cX6_takeOrder 0 = .ok (.iload_n 1, 1) := by decide +kernel
theorem dX6_takeOrder_1 : decode cX6_takeOrder 1 = .ok (.invokestatic 36, 3) := by decide +kernel
theorem dX6_takeOrder_4 : decode cX6_takeOrder 4 = .ok (.ifCond .eq 17, 3) := by decide +kernel
theorem dX6_takeOrder_7 : decode cX6_takeOrder 7 = .ok (.iload_n 2, 1) := by decide +kernel
theorem dX6_takeOrder_8 : decode cX6_takeOrder 8 = .ok (.invokestatic 36, 3) := by decide +kernel
theorem dX6_takeOrder_11 : decode cX6_takeOrder 11 = .ok (.ifCond .eq 10, 3) := by decide +kernel
theorem dX6_takeOrder_14 : decode cX6_takeOrder 14 = .ok (.iload_n 3, 1) := by decide +kernel
theorem dX6_takeOrder_15 : decode cX6_takeOrder 15 = .ok (.invokestatic 36, 3) := by decide +kernel
theorem dX6_takeOrder_18 : decode cX6_takeOrder 18 = .ok (.ifCond .ne 6, 3) := by decide +kernel
theorem dX6_takeOrder_21 : decode cX6_takeOrder 21 = .ok (.bipush (-2), 2) := by decide +kernel
theorem dX6_takeOrder_23 : decode cX6_takeOrder 23 = .ok (.ireturn, 1) := by decide +kernel
theorem dX6_takeOrder_24 : decode cX6_takeOrder 24 = .ok (.aload_n 0, 1) := by decide +kernel
theorem dX6_takeOrder_25 : decode cX6_takeOrder 25 = .ok (.getfield 9, 3) := by decide +kernel
theorem dX6_takeOrder_28 : decode cX6_takeOrder 28 = .ok (.bipush 7, 2) := by decide +kernel
theorem dX6_takeOrder_30 : decode cX6_takeOrder 30 = .ok (.invokevirtual 26, 3) := by decide +kernel
theorem dX6_takeOrder_33 : decode cX6_takeOrder 33 = .ok (.istore 4, 2) := by decide +kernel
theorem dX6_takeOrder_35 : decode cX6_takeOrder 35 = .ok (.iload 4, 2) := by decide +kernel
theorem dX6_takeOrder_37 : decode cX6_takeOrder 37 = .ok (.bipush 10, 2) := by decide +kernel
theorem dX6_takeOrder_39 : decode cX6_takeOrder 39 = .ok (.if_icmp .lt 6, 3) := by decide +kernel
theorem dX6_takeOrder_42 : decode cX6_takeOrder 42 = .ok (.bipush (-4), 2) := by decide +kernel
theorem dX6_takeOrder_44 : decode cX6_takeOrder 44 = .ok (.ireturn, 1) := by decide +kernel
theorem dX6_takeOrder_45 : decode cX6_takeOrder 45 = .ok (.aload_n 0, 1) := by decide +kernel
theorem dX6_takeOrder_46 : decode cX6_takeOrder 46 = .ok (.getfield 9, 3) := by decide +kernel
theorem dX6_takeOrder_49 : decode cX6_takeOrder 49 = .ok (.bipush 7, 2) := by decide +kernel
theorem dX6_takeOrder_51 : decode cX6_takeOrder 51 = .ok (.iload 4, 2) := by decide +kernel
theorem dX6_takeOrder_53 : decode cX6_takeOrder 53 = .ok (.iconst 1, 1) := by decide +kernel
theorem dX6_takeOrder_54 : decode cX6_takeOrder 54 = .ok (.iadd, 1) := by decide +kernel
theorem dX6_takeOrder_55 : decode cX6_takeOrder 55 = .ok (.invokevirtual 32, 3) := by decide +kernel
theorem dX6_takeOrder_58 : decode cX6_takeOrder 58 = .ok (.aload_n 0, 1) := by decide +kernel
theorem dX6_takeOrder_59 : decode cX6_takeOrder 59 = .ok (.getfield 9, 3) := by decide +kernel
theorem dX6_takeOrder_62 : decode cX6_takeOrder 62 = .ok (.iload 4, 2) := by decide +kernel
theorem dX6_takeOrder_64 : decode cX6_takeOrder 64 = .ok (.iconst 0, 1) := by decide +kernel
theorem dX6_takeOrder_65 : decode cX6_takeOrder 65 = .ok (.iload_n 1, 1) := by decide +kernel
theorem dX6_takeOrder_66 : decode cX6_takeOrder 66 = .ok (.iload_n 2, 1) := by decide +kernel
theorem dX6_takeOrder_67 : decode cX6_takeOrder 67 = .ok (.iload_n 3, 1) := by decide +kernel
theorem dX6_takeOrder_68 : decode cX6_takeOrder 68 = .ok (.invokestatic 71, 3) := by decide +kernel
theorem dX6_takeOrder_71 : decode cX6_takeOrder 71 = .ok (.invokevirtual 75, 3) := by decide +kernel
theorem dX6_takeOrder_74 : decode cX6_takeOrder 74 = .ok (.aload_n 0, 1) := by decide +kernel
theorem dX6_takeOrder_75 : decode cX6_takeOrder 75 = .ok (.getfield 9, 3) := by decide +kernel
theorem dX6_takeOrder_78 : decode cX6_takeOrder 78 = .ok (.iload 4, 2) := by decide +kernel
theorem dX6_takeOrder_80 : decode cX6_takeOrder 80 = .ok (.iconst 1, 1) := by decide +kernel
theorem dX6_takeOrder_81 : decode cX6_takeOrder 81 = .ok (.iload_n 1, 1) := by decide +kernel
theorem dX6_takeOrder_82 : decode cX6_takeOrder 82 = .ok (.iload_n 2, 1) := by decide +kernel
theorem dX6_takeOrder_83 : decode cX6_takeOrder 83 = .ok (.iload_n 3, 1) := by decide +kernel
theorem dX6_takeOrder_84 : decode cX6_takeOrder 84 = .ok (.invokestatic 78, 3) := by decide +kernel
theorem dX6_takeOrder_87 : decode cX6_takeOrder 87 = .ok (.invokevirtual 75, 3) := by decide +kernel
theorem dX6_takeOrder_90 : decode cX6_takeOrder 90 = .ok (.aload_n 0, 1) := by decide +kernel
theorem dX6_takeOrder_91 : decode cX6_takeOrder 91 = .ok (.getfield 9, 3) := by decide +kernel
theorem dX6_takeOrder_94 : decode cX6_takeOrder 94 = .ok (.iload 4, 2) := by decide +kernel
theorem dX6_takeOrder_96 : decode cX6_takeOrder 96 = .ok (.iconst 2, 1) := by decide +kernel
theorem dX6_takeOrder_97 : decode cX6_takeOrder 97 = .ok (.iload_n 1, 1) := by decide +kernel
theorem dX6_takeOrder_98 : decode cX6_takeOrder 98 = .ok (.iload_n 2, 1) := by decide +kernel
theorem dX6_takeOrder_99 : decode cX6_takeOrder 99 = .ok (.iload_n 3, 1) := by decide +kernel
theorem dX6_takeOrder_100 : decode cX6_takeOrder 100 = .ok (.invokestatic 81, 3) := by decide +kernel
theorem dX6_takeOrder_103 : decode cX6_takeOrder 103 = .ok (.invokevirtual 75, 3) := by decide +kernel
theorem dX6_takeOrder_106 : decode cX6_takeOrder 106 = .ok (.aload_n 0, 1) := by decide +kernel
theorem dX6_takeOrder_107 : decode cX6_takeOrder 107 = .ok (.getfield 9, 3) := by decide +kernel
theorem dX6_takeOrder_110 : decode cX6_takeOrder 110 = .ok (.iload 4, 2) := by decide +kernel
theorem dX6_takeOrder_112 : decode cX6_takeOrder 112 = .ok (.iconst 3, 1) := by decide +kernel
theorem dX6_takeOrder_113 : decode cX6_takeOrder 113 = .ok (.iconst 0, 1) := by decide +kernel
theorem dX6_takeOrder_114 : decode cX6_takeOrder 114 = .ok (.invokevirtual 75, 3) := by decide +kernel
theorem dX6_takeOrder_117 : decode cX6_takeOrder 117 = .ok (.aload_n 0, 1) := by decide +kernel
theorem dX6_takeOrder_118 : decode cX6_takeOrder 118 = .ok (.getfield 9, 3) := by decide +kernel
theorem dX6_takeOrder_121 : decode cX6_takeOrder 121 = .ok (.iload 4, 2) := by decide +kernel
theorem dX6_takeOrder_123 : decode cX6_takeOrder 123 = .ok (.iconst 4, 1) := by decide +kernel
theorem dX6_takeOrder_124 : decode cX6_takeOrder 124 = .ok (.bipush (-6), 2) := by decide +kernel
theorem dX6_takeOrder_126 : decode cX6_takeOrder 126 = .ok (.invokevirtual 75, 3) := by decide +kernel
theorem dX6_takeOrder_129 : decode cX6_takeOrder 129 = .ok (.aload_n 0, 1) := by decide +kernel
theorem dX6_takeOrder_130 : decode cX6_takeOrder 130 = .ok (.getfield 9, 3) := by decide +kernel
theorem dX6_takeOrder_133 : decode cX6_takeOrder 133 = .ok (.iload 4, 2) := by decide +kernel
theorem dX6_takeOrder_135 : decode cX6_takeOrder 135 = .ok (.iconst 5, 1) := by decide +kernel
theorem dX6_takeOrder_136 : decode cX6_takeOrder 136 = .ok (.bipush (-6), 2) := by decide +kernel
theorem dX6_takeOrder_138 : decode cX6_takeOrder 138 = .ok (.invokevirtual 75, 3) := by decide +kernel
theorem dX6_takeOrder_141 : decode cX6_takeOrder 141 = .ok (.iload 4, 2) := by decide +kernel
theorem dX6_takeOrder_143 : decode cX6_takeOrder 143 = .ok (.ireturn, 1) := by decide +kernel
theorem dX6_giveBlock_0 : decode cX6_giveBlock 0 = .ok (.aload_n 0, 1) := by decide +kernel
theorem dX6_giveBlock_1 : decode cX6_giveBlock 1 = .ok (.getfield 9, 3) := by decide +kernel
theorem dX6_giveBlock_4 : decode cX6_giveBlock 4 = .ok (.iload_n 1, 1) := by decide +kernel
theorem dX6_giveBlock_5 : decode cX6_giveBlock 5 = .ok (.invokevirtual 84, 3) := by decide +kernel
theorem dX6_giveBlock_8 : decode cX6_giveBlock 8 = .ok (.ifCond .eq 14, 3) := by decide +kernel
theorem dX6_giveBlock_11 : decode cX6_giveBlock 11 = .ok (.aload_n 0, 1) := by decide +kernel
theorem dX6_giveBlock_12 : decode cX6_giveBlock 12 = .ok (.getfield 9, 3) := by decide +kernel
theorem dX6_giveBlock_15 : decode cX6_giveBlock 15 = .ok (.iload_n 2, 1) := by decide +kernel
theorem dX6_giveBlock_16 : decode cX6_giveBlock 16 = .ok (.invokevirtual 48, 3) := by decide +kernel
theorem dX6_giveBlock_19 : decode cX6_giveBlock 19 = .ok (.ifCond .ne 5, 3) := by decide +kernel
theorem dX6_giveBlock_22 : decode cX6_giveBlock 22 = .ok (.iconst (-1), 1) := by decide +kernel
theorem dX6_giveBlock_23 : decode cX6_giveBlock 23 = .ok (.ireturn, 1) := by decide +kernel
theorem dX6_giveBlock_24 : decode cX6_giveBlock 24 = .ok (.aload_n 0, 1) := by decide +kernel
theorem dX6_giveBlock_25 : decode cX6_giveBlock 25 = .ok (.getfield 15, 3) := by decide +kernel
theorem dX6_giveBlock_28 : decode cX6_giveBlock 28 = .ok (.iload_n 1, 1) := by decide +kernel
theorem dX6_giveBlock_29 : decode cX6_giveBlock 29 = .ok (.iload_n 2, 1) := by decide +kernel
theorem dX6_giveBlock_30 : decode cX6_giveBlock 30 = .ok (.invokevirtual 87, 3) := by decide +kernel
theorem dX6_giveBlock_33 : decode cX6_giveBlock 33 = .ok (.istore_n 3, 1) := by decide +kernel
theorem dX6_giveBlock_34 : decode cX6_giveBlock 34 = .ok (.iload_n 3, 1) := by decide +kernel
theorem dX6_giveBlock_35 : decode cX6_giveBlock 35 = .ok (.bipush (-6), 2) := by decide +kernel
theorem dX6_giveBlock_37 : decode cX6_giveBlock 37 = .ok (.if_icmp .ne 6, 3) := by decide +kernel
theorem dX6_giveBlock_40 : decode cX6_giveBlock 40 = .ok (.bipush (-5), 2) := by decide +kernel
theorem dX6_giveBlock_42 : decode cX6_giveBlock 42 = .ok (.ireturn, 1) := by decide +kernel
theorem dX6_giveBlock_43 : decode cX6_giveBlock 43 = .ok (.aload_n 0, 1) := by decide +kernel
theorem dX6_giveBlock_44 : decode cX6_giveBlock 44 = .ok (.getfield 9, 3) := by decide +kernel
theorem dX6_giveBlock_47 : decode cX6_giveBlock 47 = .ok (.iload_n 1, 1) := by decide +kernel
theorem dX6_giveBlock_48 : decode cX6_giveBlock 48 = .ok (.iconst 3, 1) := by decide +kernel
theorem dX6_giveBlock_49 : decode cX6_giveBlock 49 = .ok (.iconst 1, 1) := by decide +kernel
theorem dX6_giveBlock_50 : decode cX6_giveBlock 50 = .ok (.invokevirtual 75, 3) := by decide +kernel
theorem dX6_giveBlock_53 : decode cX6_giveBlock 53 = .ok (.aload_n 0, 1) := by decide +kernel
theorem dX6_giveBlock_54 : decode cX6_giveBlock 54 = .ok (.getfield 9, 3) := by decide +kernel
theorem dX6_giveBlock_57 : decode cX6_giveBlock 57 = .ok (.iload_n 1, 1) := by decide +kernel
theorem dX6_giveBlock_58 : decode cX6_giveBlock 58 = .ok (.iconst 4, 1) := by decide +kernel
theorem dX6_giveBlock_59 : decode cX6_giveBlock 59 = .ok (.iload_n 2, 1) := by decide +kernel
theorem dX6_giveBlock_60 : decode cX6_giveBlock 60 = .ok (.invokevirtual 75, 3) := by decide +kernel
theorem dX6_giveBlock_63 : decode cX6_giveBlock 63 = .ok (.aload_n 0, 1) := by decide +kernel
theorem dX6_giveBlock_64 : decode cX6_giveBlock 64 = .ok (.getfield 9, 3) := by decide +kernel
theorem dX6_giveBlock_67 : decode cX6_giveBlock 67 = .ok (.iload_n 2, 1) := by decide +kernel
theorem dX6_giveBlock_68 : decode cX6_giveBlock 68 = .ok (.bipush 8, 2) := by decide +kernel
theorem dX6_giveBlock_70 : decode cX6_giveBlock 70 = .ok (.iload_n 1, 1) := by decide +kernel
theorem dX6_giveBlock_71 : decode cX6_giveBlock 71 = .ok (.invokevirtual 44, 3) := by decide +kernel
theorem dX6_giveBlock_74 : decode cX6_giveBlock 74 = .ok (.iload_n 3, 1) := by decide +kernel
theorem dX6_giveBlock_75 : decode cX6_giveBlock 75 = .ok (.ireturn, 1) := by decide +kernel
theorem dX6_takeBlockAway_0 : decode cX6_takeBlockAway 0 = .ok (.aload_n 0, 1) := by decide +kernel
theorem dX6_takeBlockAway_1 : decode cX6_takeBlockAway 1 = .ok (.getfield 9, 3) := by decide +kernel
theorem dX6_takeBlockAway_4 : decode cX6_takeBlockAway 4 = .ok (.iload_n 1, 1) := by decide +kernel
theorem dX6_takeBlockAway_5 : decode cX6_takeBlockAway 5 = .ok (.invokevirtual 84, 3) := by decide +kernel
theorem dX6_takeBlockAway_8 : decode cX6_takeBlockAway 8 = .ok (.ifCond .ne 5, 3) := by decide +kernel
theorem dX6_takeBlockAway_11 : decode cX6_takeBlockAway 11 = .ok (.iconst (-1), 1) := by decide +kernel
theorem dX6_takeBlockAway_12 : decode cX6_takeBlockAway 12 = .ok (.ireturn, 1) := by decide +kernel
theorem dX6_takeBlockAway_13 : decode cX6_takeBlockAway 13 = .ok (.aload_n 0, 1) := by decide +kernel
theorem dX6_takeBlockAway_14 : decode cX6_takeBlockAway 14 = .ok (.getfield 9, 3) := by decide +kernel
theorem dX6_takeBlockAway_17 : decode cX6_takeBlockAway 17 = .ok (.iload_n 1, 1) := by decide +kernel
theorem dX6_takeBlockAway_18 : decode cX6_takeBlockAway 18 = .ok (.iconst 3, 1) := by decide +kernel
theorem dX6_takeBlockAway_19 : decode cX6_takeBlockAway 19 = .ok (.invokevirtual 90, 3) := by decide +kernel
theorem dX6_takeBlockAway_22 : decode cX6_takeBlockAway 22 = .ok (.iconst 1, 1) := by decide +kernel
theorem dX6_takeBlockAway_23 : decode cX6_takeBlockAway 23 = .ok (.if_icmp .eq 6, 3) := by decide +kernel
theorem dX6_takeBlockAway_26 : decode cX6_takeBlockAway 26 = .ok (.bipush (-5), 2) := by decide +kernel
theorem dX6_takeBlockAway_28 : decode cX6_takeBlockAway 28 = .ok (.ireturn, 1) := by decide +kernel
theorem dX6_takeBlockAway_29 : decode cX6_takeBlockAway 29 = .ok (.aload_n 0, 1) := by decide +kernel
theorem dX6_takeBlockAway_30 : decode cX6_takeBlockAway 30 = .ok (.getfield 9, 3) := by decide +kernel
theorem dX6_takeBlockAway_33 : decode cX6_takeBlockAway 33 = .ok (.iload_n 1, 1) := by decide +kernel
theorem dX6_takeBlockAway_34 : decode cX6_takeBlockAway 34 = .ok (.iconst 4, 1) := by decide +kernel
theorem dX6_takeBlockAway_35 : decode cX6_takeBlockAway 35 = .ok (.invokevirtual 90, 3) := by decide +kernel
theorem dX6_takeBlockAway_38 : decode cX6_takeBlockAway 38 = .ok (.istore_n 2, 1) := by decide +kernel
theorem dX6_takeBlockAway_39 : decode cX6_takeBlockAway 39 = .ok (.aload_n 0, 1) := by decide +kernel
theorem dX6_takeBlockAway_40 : decode cX6_takeBlockAway 40 = .ok (.getfield 9, 3) := by decide +kernel
theorem dX6_takeBlockAway_43 : decode cX6_takeBlockAway 43 = .ok (.iload_n 1, 1) := by decide +kernel
theorem dX6_takeBlockAway_44 : decode cX6_takeBlockAway 44 = .ok (.iconst 3, 1) := by decide +kernel
theorem dX6_takeBlockAway_45 : decode cX6_takeBlockAway 45 = .ok (.iconst 0, 1) := by decide +kernel
theorem dX6_takeBlockAway_46 : decode cX6_takeBlockAway 46 = .ok (.invokevirtual 75, 3) := by decide +kernel
theorem dX6_takeBlockAway_49 : decode cX6_takeBlockAway 49 = .ok (.aload_n 0, 1) := by decide +kernel
theorem dX6_takeBlockAway_50 : decode cX6_takeBlockAway 50 = .ok (.getfield 9, 3) := by decide +kernel
theorem dX6_takeBlockAway_53 : decode cX6_takeBlockAway 53 = .ok (.iload_n 1, 1) := by decide +kernel
theorem dX6_takeBlockAway_54 : decode cX6_takeBlockAway 54 = .ok (.iconst 4, 1) := by decide +kernel
theorem dX6_takeBlockAway_55 : decode cX6_takeBlockAway 55 = .ok (.bipush (-6), 2) := by decide +kernel
theorem dX6_takeBlockAway_57 : decode cX6_takeBlockAway 57 = .ok (.invokevirtual 75, 3) := by decide +kernel
theorem dX6_takeBlockAway_60 : decode cX6_takeBlockAway 60 = .ok (.aload_n 0, 1) := by decide +kernel
theorem dX6_takeBlockAway_61 : decode cX6_takeBlockAway 61 = .ok (.getfield 9, 3) := by decide +kernel
theorem dX6_takeBlockAway_64 : decode cX6_takeBlockAway 64 = .ok (.iload_n 2, 1) := by decide +kernel
theorem dX6_takeBlockAway_65 : decode cX6_takeBlockAway 65 = .ok (.bipush 8, 2) := by decide +kernel
theorem dX6_takeBlockAway_67 : decode cX6_takeBlockAway 67 = .ok (.bipush (-6), 2) := by decide +kernel
theorem dX6_takeBlockAway_69 : decode cX6_takeBlockAway 69 = .ok (.invokevirtual 44, 3) := by decide +kernel
theorem dX6_takeBlockAway_72 : decode cX6_takeBlockAway 72 = .ok (.iload_n 2, 1) := by decide +kernel
theorem dX6_takeBlockAway_73 : decode cX6_takeBlockAway 73 = .ok (.ireturn, 1) := by decide +kernel
theorem dX6_isLimit_0 : decode cX6_isLimit 0 = .ok (.iload_n 0, 1) := by decide +kernel
theorem dX6_isLimit_1 : decode cX6_isLimit 1 = .ok (.bipush 100, 2) := by decide +kernel
theorem dX6_isLimit_3 : decode cX6_isLimit 3 = .ok (.if_icmp .lt 14, 3) := by decide +kernel
