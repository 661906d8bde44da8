theorem dX6_isLimit_6 : decode cX6_isLimit 6 = .ok (.iload_n 0, 1) := by decide +kernel
theorem dX6_isLimit_7 : decode cX6_isLimit 7 = .ok (.sipush 30000, 3) := by decide +kernel
theorem dX6_isLimit_10 : decode cX6_isLimit 10 = .ok (.if_icmp .gt 7, 3) := by decide +kernel
theorem dX6_isLimit_13 : decode cX6_isLimit 13 = .ok (.iconst 1, 1) := by decide +kernel
theorem dX6_isLimit_14 : decode cX6_isLimit 14 = .ok (.goto 4, 3) := by decide +kernel
theorem dX6_isLimit_17 : decode cX6_isLimit 17 = .ok (.iconst 0, 1) := by decide +kernel
theorem dX6_isLimit_18 : decode cX6_isLimit 18 = .ok (.ireturn, 1) := by decide +kernel
theorem dX6_changeLimits_0 : decode cX6_changeLimits 0 = .ok (.iload_n 1, 1) := by decide +kernel
theorem dX6_changeLimits_1 : decode cX6_changeLimits 1 = .ok (.invokestatic 93, 3) := by decide +kernel
theorem dX6_changeLimits_4 : decode cX6_changeLimits 4 = .ok (.ifCond .ne 5, 3) := by decide +kernel
theorem dX6_changeLimits_7 : decode cX6_changeLimits 7 = .ok (.iconst (-1), 1) := by decide +kernel
theorem dX6_changeLimits_8 : decode cX6_changeLimits 8 = .ok (.ireturn, 1) := by decide +kernel
theorem dX6_changeLimits_9 : decode cX6_changeLimits 9 = .ok (.iload_n 2, 1) := by decide +kernel
theorem dX6_changeLimits_10 : decode cX6_changeLimits 10 = .ok (.invokestatic 96, 3) := by decide +kernel
theorem dX6_changeLimits_13 : decode cX6_changeLimits 13 = .ok (.ifCond .eq 18, 3) := by decide +kernel
theorem dX6_changeLimits_16 : decode cX6_changeLimits 16 = .ok (.iload_n 3, 1) := by decide +kernel
theorem dX6_changeLimits_17 : decode cX6_changeLimits 17 = .ok (.invokestatic 96, 3) := by decide +kernel
theorem dX6_changeLimits_20 : decode cX6_changeLimits 20 = .ok (.ifCond .eq 11, 3) := by decide +kernel
theorem dX6_changeLimits_23 : decode cX6_changeLimits 23 = .ok (.iload 4, 2) := by decide +kernel
theorem dX6_changeLimits_25 : decode cX6_changeLimits 25 = .ok (.invokestatic 96, 3) := by decide +kernel
theorem dX6_changeLimits_28 : decode cX6_changeLimits 28 = .ok (.ifCond .ne 6, 3) := by decide +kernel
theorem dX6_changeLimits_31 : decode cX6_changeLimits 31 = .ok (.bipush (-2), 2) := by decide +kernel
theorem dX6_changeLimits_33 : decode cX6_changeLimits 33 = .ok (.ireturn, 1) := by decide +kernel
theorem dX6_changeLimits_34 : decode cX6_changeLimits 34 = .ok (.aload_n 0, 1) := by decide +kernel
theorem dX6_changeLimits_35 : decode cX6_changeLimits 35 = .ok (.getfield 9, 3) := by decide +kernel
theorem dX6_changeLimits_38 : decode cX6_changeLimits 38 = .ok (.iload_n 1, 1) := by decide +kernel
theorem dX6_changeLimits_39 : decode cX6_changeLimits 39 = .ok (.iconst 0, 1) := by decide +kernel
theorem dX6_changeLimits_40 : decode cX6_changeLimits 40 = .ok (.iload_n 2, 1) := by decide +kernel
theorem dX6_changeLimits_41 : decode cX6_changeLimits 41 = .ok (.invokevirtual 99, 3) := by decide +kernel
theorem dX6_changeLimits_44 : decode cX6_changeLimits 44 = .ok (.aload_n 0, 1) := by decide +kernel
theorem dX6_changeLimits_45 : decode cX6_changeLimits 45 = .ok (.getfield 9, 3) := by decide +kernel
theorem dX6_changeLimits_48 : decode cX6_changeLimits 48 = .ok (.iload_n 1, 1) := by decide +kernel
theorem dX6_changeLimits_49 : decode cX6_changeLimits 49 = .ok (.iconst 1, 1) := by decide +kernel
theorem dX6_changeLimits_50 : decode cX6_changeLimits 50 = .ok (.iload_n 3, 1) := by decide +kernel
theorem dX6_changeLimits_51 : decode cX6_changeLimits 51 = .ok (.invokevirtual 99, 3) := by decide +kernel
theorem dX6_changeLimits_54 : decode cX6_changeLimits 54 = .ok (.aload_n 0, 1) := by decide +kernel
theorem dX6_changeLimits_55 : decode cX6_changeLimits 55 = .ok (.getfield 9, 3) := by decide +kernel
theorem dX6_changeLimits_58 : decode cX6_changeLimits 58 = .ok (.iload_n 1, 1) := by decide +kernel
theorem dX6_changeLimits_59 : decode cX6_changeLimits 59 = .ok (.iconst 2, 1) := by decide +kernel
theorem dX6_changeLimits_60 : decode cX6_changeLimits 60 = .ok (.iload 4, 2) := by decide +kernel
theorem dX6_changeLimits_62 : decode cX6_changeLimits 62 = .ok (.invokevirtual 99, 3) := by decide +kernel
theorem dX6_changeLimits_65 : decode cX6_changeLimits 65 = .ok (.iconst 1, 1) := by decide +kernel
theorem dX6_changeLimits_66 : decode cX6_changeLimits 66 = .ok (.ireturn, 1) := by decide +kernel
theorem dX6_loadBlock_0 : decode cX6_loadBlock 0 = .ok (.aload_n 0, 1) := by decide +kernel
theorem dX6_loadBlock_1 : decode cX6_loadBlock 1 = .ok (.getfield 9, 3) := by decide +kernel
theorem dX6_loadBlock_4 : decode cX6_loadBlock 4 = .ok (.iload_n 1, 1) := by decide +kernel
theorem dX6_loadBlock_5 : decode cX6_loadBlock 5 = .ok (.invokevirtual 48, 3) := by decide +kernel
theorem dX6_loadBlock_8 : decode cX6_loadBlock 8 = .ok (.ifCond .eq 19, 3) := by decide +kernel
theorem dX6_loadBlock_11 : decode cX6_loadBlock 11 = .ok (.iload_n 2, 1) := by decide +kernel
theorem dX6_loadBlock_12 : decode cX6_loadBlock 12 = .ok (.invokestatic 93, 3) := by decide +kernel
theorem dX6_loadBlock_15 : decode cX6_loadBlock 15 = .ok (.ifCond .eq 12, 3) := by decide +kernel
theorem dX6_loadBlock_18 : decode cX6_loadBlock 18 = .ok (.iload_n 3, 1) := by decide +kernel
theorem dX6_loadBlock_19 : decode cX6_loadBlock 19 = .ok (.ifCond .lt 8, 3) := by decide +kernel
theorem dX6_loadBlock_22 : decode cX6_loadBlock 22 = .ok (.iload_n 3, 1) := by decide +kernel
theorem dX6_loadBlock_23 : decode cX6_loadBlock 23 = .ok (.iconst 5, 1) := by decide +kernel
theorem dX6_loadBlock_24 : decode cX6_loadBlock 24 = .ok (.if_icmp .lt 5, 3) := by decide +kernel
theorem dX6_loadBlock_27 : decode cX6_loadBlock 27 = .ok (.iconst (-1), 1) := by decide +kernel
theorem dX6_loadBlock_28 : decode cX6_loadBlock 28 = .ok (.ireturn, 1) := by decide +kernel
theorem dX6_loadBlock_29 : decode cX6_loadBlock 29 = .ok (.aload_n 0, 1) := by decide +kernel
theorem dX6_loadBlock_30 : decode cX6_loadBlock 30 = .ok (.getfield 15, 3) := by decide +kernel
theorem dX6_loadBlock_33 : decode cX6_loadBlock 33 = .ok (.iload_n 1, 1) := by decide +kernel
theorem dX6_loadBlock_34 : decode cX6_loadBlock 34 = .ok (.invokevirtual 68, 3) := by decide +kernel
theorem dX6_loadBlock_37 : decode cX6_loadBlock 37 = .ok (.ifCond .eq 15, 3) := by decide +kernel
theorem dX6_loadBlock_40 : decode cX6_loadBlock 40 = .ok (.aload_n 0, 1) := by decide +kernel
theorem dX6_loadBlock_41 : decode cX6_loadBlock 41 = .ok (.getfield 15, 3) := by decide +kernel
theorem dX6_loadBlock_44 : decode cX6_loadBlock 44 = .ok (.iload_n 2, 1) := by decide +kernel
theorem dX6_loadBlock_45 : decode cX6_loadBlock 45 = .ok (.iload_n 3, 1) := by decide +kernel
theorem dX6_loadBlock_46 : decode cX6_loadBlock 46 = .ok (.invokevirtual 102, 3) := by decide +kernel
theorem dX6_loadBlock_49 : decode cX6_loadBlock 49 = .ok (.ifCond .ne 6, 3) := by decide +kernel
theorem dX6_loadBlock_52 : decode cX6_loadBlock 52 = .ok (.bipush (-5), 2) := by decide +kernel
theorem dX6_loadBlock_54 : decode cX6_loadBlock 54 = .ok (.ireturn, 1) := by decide +kernel
theorem dX6_loadBlock_55 : decode cX6_loadBlock 55 = .ok (.aload_n 0, 1) := by decide +kernel
theorem dX6_loadBlock_56 : decode cX6_loadBlock 56 = .ok (.getfield 9, 3) := by decide +kernel
theorem dX6_loadBlock_59 : decode cX6_loadBlock 59 = .ok (.iload_n 1, 1) := by decide +kernel
theorem dX6_loadBlock_60 : decode cX6_loadBlock 60 = .ok (.iconst 5, 1) := by decide +kernel
theorem dX6_loadBlock_61 : decode cX6_loadBlock 61 = .ok (.iconst 2, 1) := by decide +kernel
theorem dX6_loadBlock_62 : decode cX6_loadBlock 62 = .ok (.invokevirtual 44, 3) := by decide +kernel
theorem dX6_loadBlock_65 : decode cX6_loadBlock 65 = .ok (.aload_n 0, 1) := by decide +kernel
theorem dX6_loadBlock_66 : decode cX6_loadBlock 66 = .ok (.getfield 9, 3) := by decide +kernel
theorem dX6_loadBlock_69 : decode cX6_loadBlock 69 = .ok (.iload_n 1, 1) := by decide +kernel
theorem dX6_loadBlock_70 : decode cX6_loadBlock 70 = .ok (.bipush 9, 2) := by decide +kernel
theorem dX6_loadBlock_72 : decode cX6_loadBlock 72 = .ok (.iconst 5, 1) := by decide +kernel
theorem dX6_loadBlock_73 : decode cX6_loadBlock 73 = .ok (.iload_n 2, 1) := by decide +kernel
theorem dX6_loadBlock_74 : decode cX6_loadBlock 74 = .ok (.imul, 1) := by decide +kernel
theorem dX6_loadBlock_75 : decode cX6_loadBlock 75 = .ok (.iload_n 3, 1) := by decide +kernel
theorem dX6_loadBlock_76 : decode cX6_loadBlock 76 = .ok (.iadd, 1) := by decide +kernel
theorem dX6_loadBlock_77 : decode cX6_loadBlock 77 = .ok (.invokevirtual 44, 3) := by decide +kernel
theorem dX6_loadBlock_80 : decode cX6_loadBlock 80 = .ok (.aload_n 0, 1) := by decide +kernel
theorem dX6_loadBlock_81 : decode cX6_loadBlock 81 = .ok (.getfield 15, 3) := by decide +kernel
theorem dX6_loadBlock_84 : decode cX6_loadBlock 84 = .ok (.iload_n 2, 1) := by decide +kernel
theorem dX6_loadBlock_85 : decode cX6_loadBlock 85 = .ok (.invokevirtual 106, 3) := by decide +kernel
theorem dX6_loadBlock_88 : decode cX6_loadBlock 88 = .ok (.ireturn, 1) := by decide +kernel
theorem dX6_unloadBlock_0 : decode cX6_unloadBlock 0 = .ok (.aload_n 0, 1) := by decide +kernel
theorem dX6_unloadBlock_1 : decode cX6_unloadBlock 1 = .ok (.getfield 9, 3) := by decide +kernel
theorem dX6_unloadBlock_4 : decode cX6_unloadBlock 4 = .ok (.iload_n 1, 1) := by decide +kernel
theorem dX6_unloadBlock_5 : decode cX6_unloadBlock 5 = .ok (.invokevirtual 48, 3) := by decide +kernel
theorem dX6_unloadBlock_8 : decode cX6_unloadBlock 8 = .ok (.ifCond .ne 5, 3) := by decide +kernel
theorem dX6_unloadBlock_11 : decode cX6_unloadBlock 11 = .ok (.iconst (-1), 1) := by decide +kernel
theorem dX6_unloadBlock_12 : decode cX6_unloadBlock 12 = .ok (.ireturn, 1) := by decide +kernel
theorem dX6_unloadBlock_13 : decode cX6_unloadBlock 13 = .ok (.aload_n 0, 1) := by decide +kernel
theorem dX6_unloadBlock_14 : decode cX6_unloadBlock 14 = .ok (.getfield 9, 3) := by decide +kernel
theorem dX6_unloadBlock_17 : decode cX6_unloadBlock 17 = .ok (.iload_n 1, 1) := by decide +kernel
theorem dX6_unloadBlock_18 : decode cX6_unloadBlock 18 = .ok (.iconst 5, 1) := by decide +kernel
theorem dX6_unloadBlock_19 : decode cX6_unloadBlock 19 = .ok (.invokevirtual 51, 3) := by decide +kernel
theorem dX6_unloadBlock_22 : decode cX6_unloadBlock 22 = .ok (.iconst 2, 1) := by decide +kernel
theorem dX6_unloadBlock_23 : decode cX6_unloadBlock 23 = .ok (.if_icmp .eq 6, 3) := by decide +kernel
theorem dX6_unloadBlock_26 : decode cX6_unloadBlock 26 = .ok (.bipush (-5), 2) := by decide +kernel
theorem dX6_unloadBlock_28 : decode cX6_unloadBlock 28 = .ok (.ireturn, 1) := by decide +kernel
theorem dX6_unloadBlock_29 : decode cX6_unloadBlock 29 = .ok (.aload_n 0, 1) := by decide +kernel
theorem dX6_unloadBlock_30 : decode cX6_unloadBlock 30 = .ok (.getfield 9, 3) := by decide +kernel
theorem dX6_unloadBlock_33 : decode cX6_unloadBlock 33 = .ok (.iload_n 1, 1) := by decide +kernel
theorem dX6_unloadBlock_34 : decode cX6_unloadBlock 34 = .ok (.bipush 9, 2) := by decide +kernel
theorem dX6_unloadBlock_36 : decode cX6_unloadBlock 36 = .ok (.invokevirtual 51, 3) := by decide +kernel
theorem dX6_unloadBlock_39 : decode cX6_unloadBlock 39 = .ok (.iconst 5, 1) := by decide +kernel
theorem dX6_unloadBlock_40 : decode cX6_unloadBlock 40 = .ok (.idiv, 1) := by decide +kernel
theorem dX6_unloadBlock_41 : decode cX6_unloadBlock 41 = .ok (.istore_n 2, 1) := by decide +kernel
theorem dX6_unloadBlock_42 : decode cX6_unloadBlock 42 = .ok (.aload_n 0, 1) := by decide +kernel
theorem dX6_unloadBlock_43 : decode cX6_unloadBlock 43 = .ok (.getfield 9, 3) := by decide +kernel
theorem dX6_unloadBlock_46 : decode cX6_unloadBlock 46 = .ok (.iload_n 1, 1) := by decide +kernel
theorem dX6_unloadBlock_47 : decode cX6_unloadBlock 47 = .ok (.iconst 5, 1) := by decide +kernel
theorem dX6_unloadBlock_48 : decode cX6_unloadBlock 48 = .ok (.iconst 0, 1) := by decide +kernel
theorem dX6_unloadBlock_49 : decode cX6_unloadBlock 49 = .ok (.invokevirtual 44, 3) := by decide +kernel
theorem dX6_unloadBlock_52 : decode cX6_unloadBlock 52 = .ok (.aload_n 0, 1) := by decide +kernel
theorem dX6_unloadBlock_53 : decode cX6_unloadBlock 53 = .ok (.getfield 9, 3) := by decide +kernel
theorem dX6_unloadBlock_56 : decode cX6_unloadBlock 56 = .ok (.iload_n 1, 1) := by decide +kernel
theorem dX6_unloadBlock_57 : decode cX6_unloadBlock 57 = .ok (.bipush 9, 2) := by decide +kernel
theorem dX6_unloadBlock_59 : decode cX6_unloadBlock 59 = .ok (.bipush (-6), 2) := by decide +kernel
theorem dX6_unloadBlock_61 : decode cX6_unloadBlock 61 = .ok (.invokevirtual 44, 3) := by decide +kernel
theorem dX6_unloadBlock_64 : decode cX6_unloadBlock 64 = .ok (.aload_n 0, 1) := by decide +kernel
theorem dX6_unloadBlock_65 : decode cX6_unloadBlock 65 = .ok (.getfield 15, 3) := by decide +kernel
theorem dX6_unloadBlock_68 : decode cX6_unloadBlock 68 = .ok (.iload_n 2, 1) := by decide +kernel
theorem dX6_unloadBlock_69 : decode cX6_unloadBlock 69 = .ok (.invokevirtual 106, 3) := by decide +kernel
theorem dX6_unloadBlock_72 : decode cX6_unloadBlock 72 = .ok (.ireturn, 1) := by decide +kernel
theorem dX6_sendLorry_0 : decode cX6_sendLorry 0 = .ok (.iload_n 1, 1) := by decide +kernel
theorem dX6_sendLorry_1 : decode cX6_sendLorry 1 = .ok (.invokestatic 93, 3) := by decide +kernel
theorem dX6_sendLorry_4 : decode cX6_sendLorry 4 = .ok (.ifCond .ne 5, 3) := by decide +kernel
theorem dX6_sendLorry_7 : decode cX6_sendLorry 7 = .ok (.iconst (-1), 1) := by decide +kernel
theorem dX6_sendLorry_8 : decode cX6_sendLorry 8 = .ok (.ireturn, 1) := by decide +kernel
theorem dX6_sendLorry_9 : decode cX6_sendLorry 9 = .ok (.aload_n 0, 1) := by decide +kernel
theorem dX6_sendLorry_10 : decode cX6_sendLorry 10 = .ok (.getfield 15, 3) := by decide +kernel
theorem dX6_sendLorry_13 : decode cX6_sendLorry 13 = .ok (.iload_n 1, 1) := by decide +kernel
theorem dX6_sendLorry_14 : decode cX6_sendLorry 14 = .ok (.invokevirtual 109, 3) := by decide +kernel
theorem dX6_sendLorry_17 : decode cX6_sendLorry 17 = .ok (.ifCond .eq 6, 3) := by decide +kernel
theorem dX6_sendLorry_20 : decode cX6_sendLorry 20 = .ok (.bipush (-5), 2) := by decide +kernel
theorem dX6_sendLorry_22 : decode cX6_sendLorry 22 = .ok (.ireturn, 1) := by decide +kernel
theorem dX6_sendLorry_23 : decode cX6_sendLorry 23 = .ok (.aload_n 0, 1) := by decide +kernel
theorem dX6_sendLorry_24 : decode cX6_sendLorry 24 = .ok (.getfield 15, 3) := by decide +kernel
theorem dX6_sendLorry_27 : decode cX6_sendLorry 27 = .ok (.iload_n 1, 1) := by decide +kernel
theorem dX6_sendLorry_28 : decode cX6_sendLorry 28 = .ok (.invokevirtual 112, 3) := by decide +kernel
theorem dX6_sendLorry_31 : decode cX6_sendLorry 31 = .ok (.istore_n 2, 1) := by decide +kernel
theorem dX6_sendLorry_32 : decode cX6_sendLorry 32 = .ok (.iconst 0, 1) := by decide +kernel
theorem dX6_sendLorry_33 : decode cX6_sendLorry 33 = .ok (.istore_n 3, 1) := by decide +kernel
theorem dX6_sendLorry_34 : decode cX6_sendLorry 34 = .ok (.iconst 0, 1) := by decide +kernel
theorem dX6_sendLorry_35 : decode cX6_sendLorry 35 = .ok (.istore 4, 2) := by decide +kernel
theorem dX6_sendLorry_37 : decode cX6_sendLorry 37 = .ok (.iload 4, 2) := by decide +kernel
theorem dX6_sendLorry_39 : decode cX6_sendLorry 39 = .ok (.bipush 24, 2) := by decide +kernel
theorem dX6_sendLorry_41 : decode cX6_sendLorry 41 = .ok (.if_icmp .ge 28, 3) := by decide +kernel
theorem dX6_sendLorry_44 : decode cX6_sendLorry 44 = .ok (.iload_n 2, 1) := by decide +kernel
theorem dX6_sendLorry_45 : decode cX6_sendLorry 45 = .ok (.iload 4, 2) := by decide +kernel
theorem dX6_sendLorry_47 : decode cX6_sendLorry 47 = .ok (.ishr, 1) := by decide +kernel
theorem dX6_sendLorry_48 : decode cX6_sendLorry 48 = .ok (.iconst 1, 1) := by decide +kernel
theorem dX6_sendLorry_49 : decode cX6_sendLorry 49 = .ok (.iand, 1) := by decide +kernel
theorem dX6_sendLorry_50 : decode cX6_sendLorry 50 = .ok (.iconst 1, 1) := by decide +kernel
theorem dX6_sendLorry_51 : decode cX6_sendLorry 51 = .ok (.if_icmp .ne 12, 3) := by decide +kernel
theorem dX6_sendLorry_54 : decode cX6_sendLorry 54 = .ok (.iload_n 3, 1) := by decide +kernel
theorem dX6_sendLorry_55 : decode cX6_sendLorry 55 = .ok (.aload_n 0, 1) := by decide +kernel
theorem dX6_sendLorry_56 : decode cX6_sendLorry 56 = .ok (.iload 4, 2) := by decide +kernel
theorem dX6_sendLorry_58 : decode cX6_sendLorry 58 = .ok (.invokevirtual 115, 3) := by decide +kernel
theorem dX6_sendLorry_61 : decode cX6_sendLorry 61 = .ok (.iadd, 1) := by decide +kernel
theorem dX6_sendLorry_62 : decode cX6_sendLorry 62 = .ok (.istore_n 3, 1) := by decide +kernel
theorem dX6_sendLorry_63 : decode cX6_sendLorry 63 = .ok (.iinc 4 1, 3) := by decide +kernel
theorem dX6_sendLorry_66 : decode cX6_sendLorry 66 = .ok (.goto (-29), 3) := by decide +kernel
theorem dX6_sendLorry_69 : decode cX6_sendLorry 69 = .ok (.aload_n 0, 1) := by decide +kernel
theorem dX6_sendLorry_70 : decode cX6_sendLorry 70 = .ok (.getfield 9, 3) := by decide +kernel
theorem dX6_sendLorry_73 : decode cX6_sendLorry 73 = .ok (.iload_n 1, 1) := by decide +kernel
theorem dX6_sendLorry_74 : decode cX6_sendLorry 74 = .ok (.iconst 3, 1) := by decide +kernel
theorem dX6_sendLorry_75 : decode cX6_sendLorry 75 = .ok (.aload_n 0, 1) := by decide +kernel
theorem dX6_sendLorry_76 : decode cX6_sendLorry 76 = .ok (.getfield 9, 3) := by decide +kernel
theorem dX6_sendLorry_79 : decode cX6_sendLorry 79 = .ok (.iload_n 1, 1) := by decide +kernel
theorem dX6_sendLorry_80 : decode cX6_sendLorry 80 = .ok (.iconst 3, 1) := by decide +kernel
theorem dX6_sendLorry_81 : decode cX6_sendLorry 81 = .ok (.invokevirtual 118, 3) := by decide +kernel
theorem dX6_sendLorry_84 : decode cX6_sendLorry 84 = .ok (.iconst 1, 1) := by decide +kernel
theorem dX6_sendLorry_85 : decode cX6_sendLorry 85 = .ok (.iadd, 1) := by decide +kernel
theorem dX6_sendLorry_86 : decode cX6_sendLorry 86 = .ok (.invokevirtual 99, 3) := by decide +kernel
theorem dX6_sendLorry_89 : decode cX6_sendLorry 89 = .ok (.iload_n 3, 1) := by decide +kernel
theorem dX6_sendLorry_90 : decode cX6_sendLorry 90 = .ok (.ireturn, 1) := by decide +kernel
theorem dX6_deliver_0 : decode cX6_deliver 0 = .ok (.aload_n 0, 1) := by decide +kernel
theorem dX6_deliver_1 : decode cX6_deliver 1 = .ok (.getfield 9, 3) := by decide +kernel
theorem dX6_deliver_4 : decode cX6_deliver 4 = .ok (.iload_n 1, 1) := by decide +kernel
theorem dX6_deliver_5 : decode cX6_deliver 5 = .ok (.iconst 5, 1) := by decide +kernel
theorem dX6_deliver_6 : decode cX6_deliver 6 = .ok (.iconst 3, 1) := by decide +kernel
theorem dX6_deliver_7 : decode cX6_deliver 7 = .ok (.invokevirtual 44, 3) := by decide +kernel
theorem dX6_deliver_10 : decode cX6_deliver 10 = .ok (.aload_n 0, 1) := by decide +kernel
theorem dX6_deliver_11 : decode cX6_deliver 11 = .ok (.getfield 9, 3) := by decide +kernel
theorem dX6_deliver_14 : decode cX6_deliver 14 = .ok (.iload_n 1, 1) := by decide +kernel
theorem dX6_deliver_15 : decode cX6_deliver 15 = .ok (.bipush 9, 2) := by decide +kernel
theorem dX6_deliver_17 : decode cX6_deliver 17 = .ok (.bipush (-6), 2) := by decide +kernel
theorem dX6_deliver_19 : decode cX6_deliver 19 = .ok (.invokevirtual 44, 3) := by decide +kernel
theorem dX6_deliver_22 : decode cX6_deliver 22 = .ok (.aload_n 0, 1) := by decide +kernel
theorem dX6_deliver_23 : decode cX6_deliver 23 = .ok (.getfield 9, 3) := by decide +kernel
theorem dX6_deliver_26 : decode cX6_deliver 26 = .ok (.iload_n 1, 1) := by decide +kernel
theorem dX6_deliver_27 : decode cX6_deliver 27 = .ok (.bipush 8, 2) := by decide +kernel
theorem dX6_deliver_29 : decode cX6_deliver 29 = .ok (.invokevirtual 51, 3) := by decide +kernel
theorem dX6_deliver_32 : decode cX6_deliver 32 = .ok (.istore_n 2, 1) := by decide +kernel
theorem dX6_deliver_33 : decode cX6_deliver 33 = .ok (.iload_n 2, 1) := by decide +kernel
theorem dX6_deliver_34 : decode cX6_deliver 34 = .ok (.bipush (-6), 2) := by decide +kernel
theorem dX6_deliver_36 : decode cX6_deliver 36 = .ok (.if_icmp .ne 5, 3) := by decide +kernel
theorem dX6_deliver_39 : decode cX6_deliver 39 = .ok (.iconst 0, 1) := by decide +kernel
theorem dX6_deliver_40 : decode cX6_deliver 40 = .ok (.ireturn, 1) := by decide +kernel
theorem dX6_deliver_41 : decode cX6_deliver 41 = .ok (.aload_n 0, 1) := by decide +kernel
theorem dX6_deliver_42 : decode cX6_deliver 42 = .ok (.getfield 9, 3) := by decide +kernel
theorem dX6_deliver_45 : decode cX6_deliver 45 = .ok (.iconst 1, 1) := by decide +kernel
theorem dX6_deliver_46 : decode cX6_deliver 46 = .ok (.invokevirtual 26, 3) := by decide +kernel
theorem dX6_deliver_49 : decode cX6_deliver 49 = .ok (.aload_n 0, 1) := by decide +kernel
theorem dX6_deliver_50 : decode cX6_deliver 50 = .ok (.getfield 9, 3) := by decide +kernel
theorem dX6_deliver_53 : decode cX6_deliver 53 = .ok (.iload_n 1, 1) := by decide +kernel
theorem dX6_deliver_54 : decode cX6_deliver 54 = .ok (.iconst 4, 1) := by decide +kernel
theorem dX6_deliver_55 : decode cX6_deliver 55 = .ok (.invokevirtual 51, 3) := by decide +kernel
theorem dX6_deliver_58 : decode cX6_deliver 58 = .ok (.bipush 99, 2) := by decide +kernel
theorem dX6_deliver_60 : decode cX6_deliver 60 = .ok (.iadd, 1) := by decide +kernel
theorem dX6_deliver_61 : decode cX6_deliver 61 = .ok (.bipush 100, 2) := by decide +kernel
theorem dX6_deliver_63 : decode cX6_deliver 63 = .ok (.idiv, 1) := by decide +kernel
theorem dX6_deliver_64 : decode cX6_deliver 64 = .ok (.imul, 1) := by decide +kernel
theorem dX6_deliver_65 : decode cX6_deliver 65 = .ok (.istore_n 3, 1) := by decide +kernel
theorem dX6_deliver_66 : decode cX6_deliver 66 = .ok (.aload_n 0, 1) := by decide +kernel
theorem dX6_deliver_67 : decode cX6_deliver 67 = .ok (.getfield 9, 3) := by decide +kernel
theorem dX6_deliver_70 : decode cX6_deliver 70 = .ok (.iload_n 2, 1) := by decide +kernel
theorem dX6_deliver_71 : decode cX6_deliver 71 = .ok (.iconst 3, 1) := by decide +kernel
theorem dX6_deliver_72 : decode cX6_deliver 72 = .ok (.iconst 2, 1) := by decide +kernel
theorem dX6_deliver_73 : decode cX6_deliver 73 = .ok (.invokevirtual 75, 3) := by decide +kernel
theorem dX6_deliver_76 : decode cX6_deliver 76 = .ok (.aload_n 0, 1) := by decide +kernel
theorem dX6_deliver_77 : decode cX6_deliver 77 = .ok (.getfield 9, 3) := by decide +kernel
theorem dX6_deliver_80 : decode cX6_deliver 80 = .ok (.iload_n 2, 1) := by decide +kernel
theorem dX6_deliver_81 : decode cX6_deliver 81 = .ok (.iconst 5, 1) := by decide +kernel
theorem dX6_deliver_82 : decode cX6_deliver 82 = .ok (.iload_n 3, 1) := by decide +kernel
theorem dX6_deliver_83 : decode cX6_deliver 83 = .ok (.invokevirtual 75, 3) := by decide +kernel
theorem dX6_deliver_86 : decode cX6_deliver 86 = .ok (.iload_n 3, 1) := by decide +kernel
theorem dX6_deliver_87 : decode cX6_deliver 87 = .ok (.ireturn, 1) := by decide +kernel
theorem dX6_passNight_0 : decode cX6_passNight 0 = .ok (.iload_n 1, 1) := by decide +kernel
theorem dX6_passNight_1 : decode cX6_passNight 1 = .ok (.bipush (-40), 2) := by decide +kernel
theorem dX6_passNight_3 : decode cX6_passNight 3 = .ok (.if_icmp .lt 9, 3) := by decide +kernel
theorem dX6_passNight_6 : decode cX6_passNight 6 = .ok (.iload_n 1, 1) := by decide +kernel
theorem dX6_passNight_7 : decode cX6_passNight 7 = .ok (.bipush 40, 2) := by decide +kernel
theorem dX6_passNight_9 : decode cX6_passNight 9 = .ok (.if_icmp .le 6, 3) := by decide +kernel
theorem dX6_passNight_12 : decode cX6_passNight 12 = .ok (.bipush (-2), 2) := by decide +kernel
theorem dX6_passNight_14 : decode cX6_passNight 14 = .ok (.ireturn, 1) := by decide +kernel
theorem dX6_passNight_15 : decode cX6_passNight 15 = .ok (.aload_n 0, 1) := by decide +kernel
theorem dX6_passNight_16 : decode cX6_passNight 16 = .ok (.getfield 9, 3) := by decide +kernel
theorem dX6_passNight_19 : decode cX6_passNight 19 = .ok (.iconst 5, 1) := by decide +kernel
theorem dX6_passNight_20 : decode cX6_passNight 20 = .ok (.invokevirtual 26, 3) := by decide +kernel
theorem dX6_passNight_23 : decode cX6_passNight 23 = .ok (.istore_n 2, 1) := by decide +kernel
theorem dX6_passNight_24 : decode cX6_passNight 24 = .ok (.iload_n 2, 1) := by decide +kernel
theorem dX6_passNight_25 : decode cX6_passNight 25 = .ok (.sipush 999, 3) := by decide +kernel
theorem dX6_passNight_28 : decode cX6_passNight 28 = .ok (.if_icmp .lt 6, 3) := by decide +kernel
theorem dX6_passNight_31 : decode cX6_passNight 31 = .ok (.bipush (-5), 2) := by decide +kernel
theorem dX6_passNight_33 : decode cX6_passNight 33 = .ok (.ireturn, 1) := by decide +kernel
theorem dX6_passNight_34 : decode cX6_passNight 34 = .ok (.iload_n 1, 1) := by decide +kernel
theorem dX6_passNight_35 : decode cX6_passNight 35 = .ok (.aload_n 0, 1) := by decide +kernel
theorem dX6_passNight_36 : decode cX6_passNight 36 = .ok (.getfield 9, 3) := by decide +kernel
theorem dX6_passNight_39 : decode cX6_passNight 39 = .ok (.iconst 2, 1) := by decide +kernel
theorem dX6_passNight_40 : decode cX6_passNight 40 = .ok (.invokevirtual 26, 3) := by decide +kernel
theorem dX6_passNight_43 : decode cX6_passNight 43 = .ok (.if_icmp .gt 7, 3) := by decide +kernel
theorem dX6_passNight_46 : decode cX6_passNight 46 = .ok (.iconst 1, 1) := by decide +kernel
theorem dX6_passNight_47 : decode cX6_passNight 47 = .ok (.goto 4, 3) := by decide +kernel
theorem dX6_passNight_50 : decode cX6_passNight 50 = .ok (.iconst 0, 1) := by decide +kernel
theorem dX6_passNight_51 : decode cX6_passNight 51 = .ok (.istore_n 3, 1) := by decide +kernel
theorem dX6_passNight_52 : decode cX6_passNight 52 = .ok (.iload_n 3, 1) := by decide +kernel
theorem dX6_passNight_53 : decode cX6_passNight 53 = .ok (.ifCond .eq 10, 3) := by decide +kernel
theorem dX6_passNight_56 : decode cX6_passNight 56 = .ok (.aload_n 0, 1) := by decide +kernel
theorem dX6_passNight_57 : decode cX6_passNight 57 = .ok (.invokevirtual 121, 3) := by decide +kernel
theorem dX6_passNight_60 : decode cX6_passNight 60 = .ok (.goto 4, 3) := by decide +kernel
theorem dX6_passNight_63 : decode cX6_passNight 63 = .ok (.iconst 0, 1) := by decide +kernel
theorem dX6_passNight_64 : decode cX6_passNight 64 = .ok (.istore 4, 2) := by decide +kernel
theorem dX6_passNight_66 : decode cX6_passNight 66 = .ok (.aload_n 0, 1) := by decide +kernel
theorem dX6_passNight_67 : decode cX6_passNight 67 = .ok (.invokevirtual 125, 3) := by decide +kernel
theorem dX6_passNight_70 : decode cX6_passNight 70 = .ok (.aload_n 0, 1) := by decide +kernel
theorem dX6_passNight_71 : decode cX6_passNight 71 = .ok (.getfield 9, 3) := by decide +kernel
theorem dX6_passNight_74 : decode cX6_passNight 74 = .ok (.iconst 4, 1) := by decide +kernel
theorem dX6_passNight_75 : decode cX6_passNight 75 = .ok (.iload_n 3, 1) := by decide +kernel
theorem dX6_passNight_76 : decode cX6_passNight 76 = .ok (.ifCond .eq 7, 3) := by decide +kernel
theorem dX6_passNight_79 : decode cX6_passNight 79 = .ok (.iconst 1, 1) := by decide +kernel
theorem dX6_passNight_80 : decode cX6_passNight 80 = .ok (.goto 4, 3) := by decide +kernel
theorem dX6_passNight_83 : decode cX6_passNight 83 = .ok (.iconst 0, 1) := by decide +kernel
theorem dX6_passNight_84 : decode cX6_passNight 84 = .ok (.invokevirtual 32, 3) := by decide +kernel
theorem dX6_passNight_87 : decode cX6_passNight 87 = .ok (.aload_n 0, 1) := by decide +kernel
theorem dX6_passNight_88 : decode cX6_passNight 88 = .ok (.getfield 9, 3) := by decide +kernel
theorem dX6_passNight_91 : decode cX6_passNight 91 = .ok (.iconst 5, 1) := by decide +kernel
theorem dX6_passNight_92 : decode cX6_passNight 92 = .ok (.iload_n 2, 1) := by decide +kernel
theorem dX6_passNight_93 : decode cX6_passNight 93 = .ok (.iconst 1, 1) := by decide +kernel
theorem dX6_passNight_94 : decode cX6_passNight 94 = .ok (.iadd, 1) := by decide +kernel
theorem dX6_passNight_95 : decode cX6_passNight 95 = .ok (.invokevirtual 32, 3) := by decide +kernel
theorem dX6_passNight_98 : decode cX6_passNight 98 = .ok (.iload 4, 2) := by decide +kernel
theorem dX6_passNight_100 : decode cX6_passNight 100 = .ok (.ireturn, 1) := by decide +kernel
theorem dX6_crackBlocks_0 : decode cX6_crackBlocks 0 = .ok (.aload_n 0, 1) := by decide +kernel
theorem dX6_crackBlocks_1 : decode cX6_crackBlocks 1 = .ok (.getfield 15, 3) := by decide +kernel
theorem dX6_crackBlocks_4 : decode cX6_crackBlocks 4 = .ok (.invokevirtual 128, 3) := by decide +kernel
theorem dX6_crackBlocks_7 : decode cX6_crackBlocks 7 = .ok (.aload_n 0, 1) := by decide +kernel
theorem dX6_crackBlocks_8 : decode cX6_crackBlocks 8 = .ok (.getfield 9, 3) := by decide +kernel
theorem dX6_crackBlocks_11 : decode cX6_crackBlocks 11 = .ok (.bipush 7, 2) := by decide +kernel
theorem dX6_crackBlocks_13 : decode cX6_crackBlocks 13 = .ok (.iconst 0, 1) := by decide +kernel
theorem dX6_crackBlocks_14 : decode cX6_crackBlocks 14 = .ok (.invokevirtual 131, 3) := by decide +kernel
theorem dX6_crackBlocks_17 : decode cX6_crackBlocks 17 = .ok (.iand, 1) := by decide +kernel
theorem dX6_crackBlocks_18 : decode cX6_crackBlocks 18 = .ok (.istore_n 1, 1) := by decide +kernel
theorem dX6_crackBlocks_19 : decode cX6_crackBlocks 19 = .ok (.iconst 0, 1) := by decide +kernel
theorem dX6_crackBlocks_20 : decode cX6_crackBlocks 20 = .ok (.istore_n 2, 1) := by decide +kernel
theorem dX6_crackBlocks_21 : decode cX6_crackBlocks 21 = .ok (.iload_n 2, 1) := by decide +kernel
theorem dX6_crackBlocks_22 : decode cX6_crackBlocks 22 = .ok (.bipush 24, 2) := by decide +kernel
theorem dX6_crackBlocks_24 : decode cX6_crackBlocks 24 = .ok (.if_icmp .ge 29, 3) := by decide +kernel
theorem dX6_crackBlocks_27 : decode cX6_crackBlocks 27 = .ok (.iload_n 1, 1) := by decide +kernel
theorem dX6_crackBlocks_28 : decode cX6_crackBlocks 28 = .ok (.iload_n 2, 1) := by decide +kernel
theorem dX6_crackBlocks_29 : decode cX6_crackBlocks 29 = .ok (.ishr, 1) := by decide +kernel
theorem dX6_crackBlocks_30 : decode cX6_crackBlocks 30 = .ok (.iconst 1, 1) := by decide +kernel
theorem dX6_crackBlocks_31 : decode cX6_crackBlocks 31 = .ok (.iand, 1) := by decide +kernel
theorem dX6_crackBlocks_32 : decode cX6_crackBlocks 32 = .ok (.iconst 1, 1) := by decide +kernel
theorem dX6_crackBlocks_33 : decode cX6_crackBlocks 33 = .ok (.if_icmp .ne 14, 3) := by decide +kernel
theorem dX6_crackBlocks_36 : decode cX6_crackBlocks 36 = .ok (.aload_n 0, 1) := by decide +kernel
theorem dX6_crackBlocks_37 : decode cX6_crackBlocks 37 = .ok (.getfield 9, 3) := by decide +kernel
theorem dX6_crackBlocks_40 : decode cX6_crackBlocks 40 = .ok (.iload_n 2, 1) := by decide +kernel
theorem dX6_crackBlocks_41 : decode cX6_crackBlocks 41 = .ok (.bipush 7, 2) := by decide +kernel
theorem dX6_crackBlocks_43 : decode cX6_crackBlocks 43 = .ok (.iconst 1, 1) := by decide +kernel
theorem dX6_crackBlocks_44 : decode cX6_crackBlocks 44 = .ok (.invokevirtual 44, 3) := by decide +kernel
theorem dX6_crackBlocks_47 : decode cX6_crackBlocks 47 = .ok (.iinc 2 1, 3) := by decide +kernel
theorem dX6_crackBlocks_50 : decode cX6_crackBlocks 50 = .ok (.goto (-29), 3) := by decide +kernel
theorem dX6_crackBlocks_53 : decode cX6_crackBlocks 53 = .ok (.iload_n 1, 1) := by decide +kernel
theorem dX6_crackBlocks_54 : decode cX6_crackBlocks 54 = .ok (.invokestatic 134, 3) := by decide +kernel
theorem dX6_crackBlocks_57 : decode cX6_crackBlocks 57 = .ok (.ireturn, 1) := by decide +kernel
theorem dX6_dryBlocks_0 : decode cX6_dryBlocks 0 = .ok (.aload_n 0, 1) := by decide +kernel
theorem dX6_dryBlocks_1 : decode cX6_dryBlocks 1 = .ok (.getfield 9, 3) := by decide +kernel
theorem dX6_dryBlocks_4 : decode cX6_dryBlocks 4 = .ok (.bipush 6, 2) := by decide +kernel
theorem dX6_dryBlocks_6 : decode cX6_dryBlocks 6 = .ok (.invokevirtual 26, 3) := by decide +kernel
theorem dX6_dryBlocks_9 : decode cX6_dryBlocks 9 = .ok (.istore_n 1, 1) := by decide +kernel
theorem dX6_dryBlocks_10 : decode cX6_dryBlocks 10 = .ok (.iconst 0, 1) := by decide +kernel
theorem dX6_dryBlocks_11 : decode cX6_dryBlocks 11 = .ok (.istore_n 2, 1) := by decide +kernel
theorem dX6_dryBlocks_12 : decode cX6_dryBlocks 12 = .ok (.iload_n 2, 1) := by decide +kernel
theorem dX6_dryBlocks_13 : decode cX6_dryBlocks 13 = .ok (.iload_n 1, 1) := by decide +kernel
theorem dX6_dryBlocks_14 : decode cX6_dryBlocks 14 = .ok (.if_icmp .ge 60, 3) := by decide +kernel
theorem dX6_dryBlocks_17 : decode cX6_dryBlocks 17 = .ok (.aload_n 0, 1) := by decide +kernel
theorem dX6_dryBlocks_18 : decode cX6_dryBlocks 18 = .ok (.getfield 9, 3) := by decide +kernel
theorem dX6_dryBlocks_21 : decode cX6_dryBlocks 21 = .ok (.iload_n 2, 1) := by decide +kernel
theorem dX6_dryBlocks_22 : decode cX6_dryBlocks 22 = .ok (.iconst 5, 1) := by decide +kernel
theorem dX6_dryBlocks_23 : decode cX6_dryBlocks 23 = .ok (.invokevirtual 51, 3) := by decide +kernel
theorem dX6_dryBlocks_26 : decode cX6_dryBlocks 26 = .ok (.istore_n 3, 1) := by decide +kernel
theorem dX6_dryBlocks_27 : decode cX6_dryBlocks 27 = .ok (.aload_n 0, 1) := by decide +kernel
theorem dX6_dryBlocks_28 : decode cX6_dryBlocks 28 = .ok (.getfield 9, 3) := by decide +kernel
theorem dX6_dryBlocks_31 : decode cX6_dryBlocks 31 = .ok (.iload_n 2, 1) := by decide +kernel
theorem dX6_dryBlocks_32 : decode cX6_dryBlocks 32 = .ok (.bipush 6, 2) := by decide +kernel
theorem dX6_dryBlocks_34 : decode cX6_dryBlocks 34 = .ok (.invokevirtual 51, 3) := by decide +kernel
theorem dX6_dryBlocks_37 : decode cX6_dryBlocks 37 = .ok (.istore 4, 2) := by decide +kernel
theorem dX6_dryBlocks_39 : decode cX6_dryBlocks 39 = .ok (.iload 4, 2) := by decide +kernel
theorem dX6_dryBlocks_41 : decode cX6_dryBlocks 41 = .ok (.ifCond .le 27, 3) := by decide +kernel
theorem dX6_dryBlocks_44 : decode cX6_dryBlocks 44 = .ok (.iload_n 3, 1) := by decide +kernel
theorem dX6_dryBlocks_45 : decode cX6_dryBlocks 45 = .ok (.iconst 3, 1) := by decide +kernel
theorem dX6_dryBlocks_46 : decode cX6_dryBlocks 46 = .ok (.if_icmp .eq 22, 3) := by decide +kernel
theorem dX6_dryBlocks_49 : decode cX6_dryBlocks 49 = .ok (.iload_n 3, 1) := by decide +kernel
theorem dX6_dryBlocks_50 : decode cX6_dryBlocks 50 = .ok (.iconst 4, 1) := by decide +kernel
theorem dX6_dryBlocks_51 : decode cX6_dryBlocks 51 = .ok (.if_icmp .eq 17, 3) := by decide +kernel
theorem dX6_dryBlocks_54 : decode cX6_dryBlocks 54 = .ok (.aload_n 0, 1) := by decide +kernel
theorem dX6_dryBlocks_55 : decode cX6_dryBlocks 55 = .ok (.getfield 9, 3) := by decide +kernel
theorem dX6_dryBlocks_58 : decode cX6_dryBlocks 58 = .ok (.iload_n 2, 1) := by decide +kernel
theorem dX6_dryBlocks_59 : decode cX6_dryBlocks 59 = .ok (.bipush 6, 2) := by decide +kernel
theorem dX6_dryBlocks_61 : decode cX6_dryBlocks 61 = .ok (.iload 4, 2) := by decide +kernel
theorem dX6_dryBlocks_63 : decode cX6_dryBlocks 63 = .ok (.iconst 1, 1) := by decide +kernel
theorem dX6_dryBlocks_64 : decode cX6_dryBlocks 64 = .ok (.isub, 1) := by decide +kernel
theorem dX6_dryBlocks_65 : decode cX6_dryBlocks 65 = .ok (.invokevirtual 44, 3) := by decide +kernel
theorem dX6_dryBlocks_68 : decode cX6_dryBlocks 68 = .ok (.iinc 2 1, 3) := by decide +kernel
theorem dX6_dryBlocks_71 : decode cX6_dryBlocks 71 = .ok (.goto (-59), 3) := by decide +kernel
theorem dX6_dryBlocks_74 : decode cX6_dryBlocks 74 = .ok (.return_, 1) := by decide +kernel
theorem dX7_init_0 : decode cX7_init 0 = .ok (.aload_n 0, 1) := by decide +kernel
theorem dX7_init_1 : decode cX7_init 1 = .ok (.invokespecial 3, 3) := by decide +kernel
theorem dX7_init_4 : decode cX7_init 4 = .ok (.aload_n 0, 1) := by decide +kernel
theorem dX7_init_5 : decode cX7_init 5 = .ok (.new 9, 3) := by decide +kernel
theorem dX7_init_8 : decode cX7_init 8 = .ok (.dup, 1) := by decide +kernel
theorem dX7_init_9 : decode cX7_init 9 = .ok (.invokespecial 11, 3) := by decide +kernel
theorem dX7_init_12 : decode cX7_init 12 = .ok (.putfield 12, 3) := by decide +kernel
theorem dX7_init_15 : decode cX7_init 15 = .ok (.aload_n 0, 1) := by decide +kernel
theorem dX7_init_16 : decode cX7_init 16 = .ok (.new 16, 3) := by decide +kernel
theorem dX7_init_19 : decode cX7_init 19 = .ok (.dup, 1) := by decide +kernel
theorem dX7_init_20 : decode cX7_init 20 = .ok (.aload_n 0, 1) := by decide +kernel
theorem dX7_init_21 : decode cX7_init 21 = .ok (.getfield 12, 3) := by decide +kernel
theorem dX7_init_24 : decode cX7_init 24 = .ok (.invokespecial 18, 3) := by decide +kernel
theorem dX7_init_27 : decode cX7_init 27 = .ok (.putfield 21, 3) := by decide +kernel
theorem dX7_init_30 : decode cX7_init 30 = .ok (.aload_n 0, 1) := by decide +kernel
theorem dX7_init_31 : decode cX7_init 31 = .ok (.new 25, 3) := by decide +kernel
theorem dX7_init_34 : decode cX7_init 34 = .ok (.dup, 1) := by decide +kernel
theorem dX7_init_35 : decode cX7_init 35 = .ok (.aload_n 0, 1) := by decide +kernel
theorem dX7_init_36 : decode cX7_init 36 = .ok (.getfield 12, 3) := by decide +kernel
theorem dX7_init_39 : decode cX7_init 39 = .ok (.aload_n 0, 1) := by decide +kernel
theorem dX7_init_40 : decode cX7_init 40 = .ok (.getfield 21, 3) := by decide +kernel
theorem dX7_init_43 : decode cX7_init 43 = .ok (.invokespecial 27, 3) := by decide +kernel
theorem dX7_init_46 : decode cX7_init 46 = .ok (.putfield 30, 3) := by decide +kernel
theorem dX7_init_49 : decode cX7_init 49 = .ok (.aload_n 0, 1) := by decide +kernel
theorem dX7_init_50 : decode cX7_init 50 = .ok (.new 34, 3) := by decide +kernel
theorem dX7_init_53 : decode cX7_init 53 = .ok (.dup, 1) := by decide +kernel
theorem dX7_init_54 : decode cX7_init 54 = .ok (.invokespecial 36, 3) := by decide +kernel
theorem dX7_init_57 : decode cX7_init 57 = .ok (.putfield 37, 3) := by decide +kernel
theorem dX7_init_60 : decode cX7_init 60 = .ok (.aload_n 0, 1) := by decide +kernel
theorem dX7_init_61 : decode cX7_init 61 = .ok (.new 41, 3) := by decide +kernel
theorem dX7_init_64 : decode cX7_init 64 = .ok (.dup, 1) := by decide +kernel
theorem dX7_init_65 : decode cX7_init 65 = .ok (.invokespecial 43, 3) := by decide +kernel
theorem dX7_init_68 : decode cX7_init 68 = .ok (.putfield 44, 3) := by decide +kernel
theorem dX7_init_71 : decode cX7_init 71 = .ok (.aload_n 0, 1) := by decide +kernel
theorem dX7_init_72 : decode cX7_init 72 = .ok (.new 48, 3) := by decide +kernel
theorem dX7_init_75 : decode cX7_init 75 = .ok (.dup, 1) := by decide +kernel
theorem dX7_init_76 : decode cX7_init 76 = .ok (.invokespecial 50, 3) := by decide +kernel
theorem dX7_init_79 : decode cX7_init 79 = .ok (.putfield 51, 3) := by decide +kernel
theorem dX7_init_82 : decode cX7_init 82 = .ok (.return_, 1) := by decide +kernel
theorem dX7_set_0 : decode cX7_set 0 = .ok (.aload_n 0, 1) := by decide +kernel
theorem dX7_set_1 : decode cX7_set 1 = .ok (.getfield 37, 3) := by decide +kernel
theorem dX7_set_4 : decode cX7_set 4 = .ok (.aload_n 0, 1) := by decide +kernel
theorem dX7_set_5 : decode cX7_set 5 = .ok (.getfield 12, 3) := by decide +kernel
theorem dX7_set_8 : decode cX7_set 8 = .ok (.invokevirtual 55, 3) := by decide +kernel
theorem dX7_set_11 : decode cX7_set 11 = .ok (.aload_n 0, 1) := by decide +kernel
theorem dX7_set_12 : decode cX7_set 12 = .ok (.getfield 37, 3) := by decide +kernel
theorem dX7_set_15 : decode cX7_set 15 = .ok (.aload_n 0, 1) := by decide +kernel
theorem dX7_set_16 : decode cX7_set 16 = .ok (.getfield 30, 3) := by decide +kernel
theorem dX7_set_19 : decode cX7_set 19 = .ok (.iload_n 1, 1) := by decide +kernel
theorem dX7_set_20 : decode cX7_set 20 = .ok (.iload_n 2, 1) := by decide +kernel
theorem dX7_set_21 : decode cX7_set 21 = .ok (.invokevirtual 58, 3) := by decide +kernel
theorem dX7_set_24 : decode cX7_set 24 = .ok (.invokevirtual 62, 3) := by decide +kernel
theorem dX7_set_27 : decode cX7_set 27 = .ok (.ireturn, 1) := by decide +kernel
theorem dX7_quarry_0 : decode cX7_quarry 0 = .ok (.aload_n 0, 1) := by decide +kernel
theorem dX7_quarry_1 : decode cX7_quarry 1 = .ok (.getfield 37, 3) := by decide +kernel
theorem dX7_quarry_4 : decode cX7_quarry 4 = .ok (.aload_n 0, 1) := by decide +kernel
theorem dX7_quarry_5 : decode cX7_quarry 5 = .ok (.getfield 12, 3) := by decide +kernel
theorem dX7_quarry_8 : decode cX7_quarry 8 = .ok (.invokevirtual 55, 3) := by decide +kernel
theorem dX7_quarry_11 : decode cX7_quarry 11 = .ok (.aload_n 0, 1) := by decide +kernel
theorem dX7_quarry_12 : decode cX7_quarry 12 = .ok (.getfield 37, 3) := by decide +kernel
theorem dX7_quarry_15 : decode cX7_quarry 15 = .ok (.aload_n 0, 1) := by decide +kernel
theorem dX7_quarry_16 : decode cX7_quarry 16 = .ok (.getfield 30, 3) := by decide +kernel
theorem dX7_quarry_19 : decode cX7_quarry 19 = .ok (.iload_n 1, 1) := by decide +kernel
theorem dX7_quarry_20 : decode cX7_quarry 20 = .ok (.iload_n 2, 1) := by decide +kernel
theorem dX7_quarry_21 : decode cX7_quarry 21 = .ok (.iload_n 3, 1) := by decide +kernel
theorem dX7_quarry_22 : decode cX7_quarry 22 = .ok (.iload 4, 2) := by decide +kernel
theorem dX7_quarry_24 : decode cX7_quarry 24 = .ok (.invokevirtual 66, 3) := by decide +kernel
theorem dX7_quarry_27 : decode cX7_quarry 27 = .ok (.invokevirtual 62, 3) := by decide +kernel
theorem dX7_quarry_30 : decode cX7_quarry 30 = .ok (.ireturn, 1) := by decide +kernel
theorem dX7_cut_0 : decode cX7_cut 0 = .ok (.aload_n 0, 1) := by decide +kernel
theorem dX7_cut_1 : decode cX7_cut 1 = .ok (.getfield 37, 3) := by decide +kernel
theorem dX7_cut_4 : decode cX7_cut 4 = .ok (.aload_n 0, 1) := by decide +kernel
theorem dX7_cut_5 : decode cX7_cut 5 = .ok (.getfield 12, 3) := by decide +kernel
theorem dX7_cut_8 : decode cX7_cut 8 = .ok (.invokevirtual 55, 3) := by decide +kernel
theorem dX7_cut_11 : decode cX7_cut 11 = .ok (.aload_n 0, 1) := by decide +kernel
theorem dX7_cut_12 : decode cX7_cut 12 = .ok (.getfield 37, 3) := by decide +kernel
theorem dX7_cut_15 : decode cX7_cut 15 = .ok (.aload_n 0, 1) := by decide +kernel
theorem dX7_cut_16 : decode cX7_cut 16 = .ok (.getfield 30, 3) := by decide +kernel
theorem dX7_cut_19 : decode cX7_cut 19 = .ok (.iload_n 1, 1) := by decide +kernel
theorem dX7_cut_20 : decode cX7_cut 20 = .ok (.iload_n 2, 1) := by decide +kernel
theorem dX7_cut_21 : decode cX7_cut 21 = .ok (.iload_n 3, 1) := by decide +kernel
theorem dX7_cut_22 : decode cX7_cut 22 = .ok (.invokevirtual 70, 3) := by decide +kernel
theorem dX7_cut_25 : decode cX7_cut 25 = .ok (.invokevirtual 62, 3) := by decide +kernel
theorem dX7_cut_28 : decode cX7_cut 28 = .ok (.ireturn, 1) := by decide +kernel
theorem dX7_shelter_0 : decode cX7_shelter 0 = .ok (.aload_n 0, 1) := by decide +kernel
theorem dX7_shelter_1 : decode cX7_shelter 1 = .ok (.getfield 37, 3) := by decide +kernel
theorem dX7_shelter_4 : decode cX7_shelter 4 = .ok (.aload_n 0, 1) := by decide +kernel
theorem dX7_shelter_5 : decode cX7_shelter 5 = .ok (.getfield 12, 3) := by decide +kernel
theorem dX7_shelter_8 : decode cX7_shelter 8 = .ok (.invokevirtual 55, 3) := by decide +kernel
theorem dX7_shelter_11 : decode cX7_shelter 11 = .ok (.aload_n 0, 1) := by decide +kernel
theorem dX7_shelter_12 : decode cX7_shelter 12 = .ok (.getfield 37, 3) := by decide +kernel
theorem dX7_shelter_15 : decode cX7_shelter 15 = .ok (.aload_n 0, 1) := by decide +kernel
theorem dX7_shelter_16 : decode cX7_shelter 16 = .ok (.getfield 30, 3) := by decide +kernel
theorem dX7_shelter_19 : decode cX7_shelter 19 = .ok (.iload_n 1, 1) := by decide +kernel
theorem dX7_shelter_20 : decode cX7_shelter 20 = .ok (.invokevirtual 74, 3) := by decide +kernel
theorem dX7_shelter_23 : decode cX7_shelter 23 = .ok (.invokevirtual 62, 3) := by decide +kernel
theorem dX7_shelter_26 : decode cX7_shelter 26 = .ok (.ireturn, 1) := by decide +kernel
theorem dX7_order_0 : decode cX7_order 0 = .ok (.aload_n 0, 1) := by decide +kernel
theorem dX7_order_1 : decode cX7_order 1 = .ok (.getfield 37, 3) := by decide +kernel
theorem dX7_order_4 : decode cX7_order 4 = .ok (.aload_n 0, 1) := by decide +kernel
theorem dX7_order_5 : decode cX7_order 5 = .ok (.getfield 12, 3) := by decide +kernel
theorem dX7_order_8 : decode cX7_order 8 = .ok (.invokevirtual 55, 3) := by decide +kernel
theorem dX7_order_11 : decode cX7_order 11 = .ok (.aload_n 0, 1) := by decide +kernel
theorem dX7_order_12 : decode cX7_order 12 = .ok (.getfield 37, 3) := by decide +kernel
theorem dX7_order_15 : decode cX7_order 15 = .ok (.aload_n 0, 1) := by decide +kernel
theorem dX7_order_16 : decode cX7_order 16 = .ok (.getfield 30, 3) := by decide +kernel
theorem dX7_order_19 : decode cX7_order 19 = .ok (.iload_n 1, 1) := by decide +kernel
theorem dX7_order_20 : decode cX7_order 20 = .ok (.iload_n 2, 1) := by decide +kernel
theorem dX7_order_21 : decode cX7_order 21 = .ok (.iload_n 3, 1) := by decide +kernel
theorem dX7_order_22 : decode cX7_order 22 = .ok (.invokevirtual 77, 3) := by decide +kernel
theorem dX7_order_25 : decode cX7_order 25 = .ok (.invokevirtual 62, 3) := by decide +kernel
theorem dX7_order_28 : decode cX7_order 28 = .ok (.ireturn, 1) := by decide +kernel
theorem dX7_give_0 : decode cX7_give 0 = .ok (.aload_n 0, 1) := by decide +kernel
theorem dX7_give_1 : decode cX7_give 1 = .ok (.getfield 37, 3) := by decide +kernel
theorem dX7_give_4 : decode cX7_give 4 = .ok (.aload_n 0, 1) := by decide +kernel
theorem dX7_give_5 : decode cX7_give 5 = .ok (.getfield 12, 3) := by decide +kernel
theorem dX7_give_8 : decode cX7_give 8 = .ok (.invokevirtual 55, 3) := by decide +kernel
theorem dX7_give_11 : decode cX7_give 11 = .ok (.aload_n 0, 1) := by decide +kernel
theorem dX7_give_12 : decode cX7_give 12 = .ok (.getfield 37, 3) := by decide +kernel
theorem dX7_give_15 : decode cX7_give 15 = .ok (.aload_n 0, 1) := by decide +kernel
theorem dX7_give_16 : decode cX7_give 16 = .ok (.getfield 30, 3) := by decide +kernel
theorem dX7_give_19 : decode cX7_give 19 = .ok (.iload_n 1, 1) := by decide +kernel
theorem dX7_give_20 : decode cX7_give 20 = .ok (.iload_n 2, 1) := by decide +kernel
theorem dX7_give_21 : decode cX7_give 21 = .ok (.invokevirtual 80, 3) := by decide +kernel
theorem dX7_give_24 : decode cX7_give 24 = .ok (.invokevirtual 62, 3) := by decide +kernel
theorem dX7_give_27 : decode cX7_give 27 = .ok (.ireturn, 1) := by decide +kernel
theorem dX7_takeBack_0 : decode cX7_takeBack 0 = .ok (.aload_n 0, 1) := by decide +kernel
theorem dX7_takeBack_1 : decode cX7_takeBack 1 = .ok (.getfield 37, 3) := by decide +kernel
theorem dX7_takeBack_4 : decode cX7_takeBack 4 = .ok (.aload_n 0, 1) := by decide +kernel
theorem dX7_takeBack_5 : decode cX7_takeBack 5 = .ok (.getfield 12, 3) := by decide +kernel
theorem dX7_takeBack_8 : decode cX7_takeBack 8 = .ok (.invokevirtual 55, 3) := by decide +kernel
theorem dX7_takeBack_11 : decode cX7_takeBack 11 = .ok (.aload_n 0, 1) := by decide +kernel
theorem dX7_takeBack_12 : decode cX7_takeBack 12 = .ok (.getfield 37, 3) := by decide +kernel
theorem dX7_takeBack_15 : decode cX7_takeBack 15 = .ok (.aload_n 0, 1) := by decide +kernel
theorem dX7_takeBack_16 : decode cX7_takeBack 16 = .ok (.getfield 30, 3) := by decide +kernel
theorem dX7_takeBack_19 : decode cX7_takeBack 19 = .ok (.iload_n 1, 1) := by decide +kernel
theorem dX7_takeBack_20 : decode cX7_takeBack 20 = .ok (.invokevirtual 83, 3) := by decide +kernel
theorem dX7_takeBack_23 : decode cX7_takeBack 23 = .ok (.invokevirtual 62, 3) := by decide +kernel
theorem dX7_takeBack_26 : decode cX7_takeBack 26 = .ok (.ireturn, 1) := by decide +kernel
theorem dX7_limits_0 : decode cX7_limits 0 = .ok (.aload_n 0, 1) := by decide +kernel
theorem dX7_limits_1 : decode cX7_limits 1 = .ok (.getfield 37, 3) := by decide +kernel
theorem dX7_limits_4 : decode cX7_limits 4 = .ok (.aload_n 0, 1) := by decide +kernel
theorem dX7_limits_5 : decode cX7_limits 5 = .ok (.getfield 12, 3) := by decide +kernel
theorem dX7_limits_8 : decode cX7_limits 8 = .ok (.invokevirtual 55, 3) := by decide +kernel
theorem dX7_limits_11 : decode cX7_limits 11 = .ok (.aload_n 0, 1) := by decide +kernel
theorem dX7_limits_12 : decode cX7_limits 12 = .ok (.getfield 37, 3) := by decide +kernel
theorem dX7_limits_15 : decode cX7_limits 15 = .ok (.aload_n 0, 1) := by decide +kernel
theorem dX7_limits_16 : decode cX7_limits 16 = .ok (.getfield 30, 3) := by decide +kernel
theorem dX7_limits_19 : decode cX7_limits 19 = .ok (.iload_n 1, 1) := by decide +kernel
theorem dX7_limits_20 : decode cX7_limits 20 = .ok (.iload_n 2, 1) := by decide +kernel
theorem dX7_limits_21 : decode cX7_limits 21 = .ok (.iload_n 3, 1) := by decide +kernel
theorem dX7_limits_22 : decode cX7_limits 22 = .ok (.iload 4, 2) := by decide +kernel
theorem dX7_limits_24 : decode cX7_limits 24 = .ok (.invokevirtual 86, 3) := by decide +kernel
theorem dX7_limits_27 : decode cX7_limits 27 = .ok (.invokevirtual 62, 3) := by decide +kernel
theorem dX7_limits_30 : decode cX7_limits 30 = .ok (.ireturn, 1) := by decide +kernel
theorem dX7_load_0 : decode cX7_load 0 = .ok (.aload_n 0, 1) := by decide +kernel
theorem dX7_load_1 : decode cX7_load 1 = .ok (.getfield 37, 3) := by decide +kernel
theorem dX7_load_4 : decode cX7_load 4 = .ok (.aload_n 0, 1) := by decide +kernel
theorem dX7_load_5 : decode cX7_load 5 = .ok (.getfield 12, 3) := by decide +kernel
theorem dX7_load_8 : decode cX7_load 8 = .ok (.invokevirtual 55, 3) := by decide +kernel
theorem dX7_load_11 : decode cX7_load 11 = .ok (.aload_n 0, 1) := by decide +kernel
theorem dX7_load_12 : decode cX7_load 12 = .ok (.getfield 37, 3) := by decide +kernel
theorem dX7_load_15 : decode cX7_load 15 = .ok (.aload_n 0, 1) := by decide +kernel
theorem dX7_load_16 : decode cX7_load 16 = .ok (.getfield 30, 3) := by decide +kernel
theorem dX7_load_19 : decode cX7_load 19 = .ok (.iload_n 1, 1) := by decide +kernel
theorem dX7_load_20 : decode cX7_load 20 = .ok (.iload_n 2, 1) := by decide +kernel
theorem dX7_load_21 : decode cX7_load 21 = .ok (.iload_n 3, 1) := by decide +kernel
theorem dX7_load_22 : decode cX7_load 22 = .ok (.invokevirtual 89, 3) := by decide +kernel
theorem dX7_load_25 : decode cX7_load 25 = .ok (.invokevirtual 62, 3) := by decide +kernel
theorem dX7_load_28 : decode cX7_load 28 = .ok (.ireturn, 1) := by decide +kernel
theorem dX7_unload_0 : decode cX7_unload 0 = .ok (.aload_n 0, 1) := by decide +kernel
theorem dX7_unload_1 : decode cX7_unload 1 = .ok (.getfield 37, 3) := by decide +kernel
theorem dX7_unload_4 : decode cX7_unload 4 = .ok (.aload_n 0, 1) := by decide +kernel
theorem dX7_unload_5 : decode cX7_unload 5 = .ok (.getfield 12, 3) := by decide +kernel
theorem dX7_unload_8 : decode cX7_unload 8 = .ok (.invokevirtual 55, 3) := by decide +kernel
theorem dX7_unload_11 : decode cX7_unload 11 = .ok (.aload_n 0, 1) := by decide +kernel
theorem dX7_unload_12 : decode cX7_unload 12 = .ok (.getfield 37, 3) := by decide +kernel
theorem dX7_unload_15 : decode cX7_unload 15 = .ok (.aload_n 0, 1) := by decide +kernel
theorem dX7_unload_16 : decode cX7_unload 16 = .ok (.getfield 30, 3) := by decide +kernel
theorem dX7_unload_19 : decode cX7_unload 19 = .ok (.iload_n 1, 1) := by decide +kernel
theorem dX7_unload_20 : decode cX7_unload 20 = .ok (.invokevirtual 92, 3) := by decide +kernel
theorem dX7_unload_23 : decode cX7_unload 23 = .ok (.invokevirtual 62, 3) := by decide +kernel
theorem dX7_unload_26 : decode cX7_unload 26 = .ok (.ireturn, 1) := by decide +kernel
theorem dX7_leave_0 : decode cX7_leave 0 = .ok (.aload_n 0, 1) := by decide +kernel
theorem dX7_leave_1 : decode cX7_leave 1 = .ok (.getfield 37, 3) := by decide +kernel
theorem dX7_leave_4 : decode cX7_leave 4 = .ok (.aload_n 0, 1) := by decide +kernel
theorem dX7_leave_5 : decode cX7_leave 5 = .ok (.getfield 12, 3) := by decide +kernel
theorem dX7_leave_8 : decode cX7_leave 8 = .ok (.invokevirtual 55, 3) := by decide +kernel
theorem dX7_leave_11 : decode cX7_leave 11 = .ok (.aload_n 0, 1) := by decide +kernel
theorem dX7_leave_12 : decode cX7_leave 12 = .ok (.getfield 37, 3) := by decide +kernel
theorem dX7_leave_15 : decode cX7_leave 15 = .ok (.aload_n 0, 1) := by decide +kernel
theorem dX7_leave_16 : decode cX7_leave 16 = .ok (.getfield 30, 3) := by decide +kernel
theorem dX7_leave_19 : decode cX7_leave 19 = .ok (.iload_n 1, 1) := by decide +kernel
theorem dX7_leave_20 : decode cX7_leave 20 = .ok (.invokevirtual 95, 3) := by decide +kernel
theorem dX7_leave_23 : decode cX7_leave 23 = .ok (.invokevirtual 62, 3) := by decide +kernel
theorem dX7_leave_26 : decode cX7_leave 26 = .ok (.ireturn, 1) := by decide +kernel
theorem dX7_night_0 : decode cX7_night 0 = .ok (.aload_n 0, 1) := by decide +kernel
theorem dX7_night_1 : decode cX7_night 1 = .ok (.getfield 37, 3) := by decide +kernel
theorem dX7_night_4 : decode cX7_night 4 = .ok (.aload_n 0, 1) := by decide +kernel
theorem dX7_night_5 : decode cX7_night 5 = .ok (.getfield 12, 3) := by decide +kernel
theorem dX7_night_8 : decode cX7_night 8 = .ok (.invokevirtual 55, 3) := by decide +kernel
theorem dX7_night_11 : decode cX7_night 11 = .ok (.aload_n 0, 1) := by decide +kernel
theorem dX7_night_12 : decode cX7_night 12 = .ok (.getfield 37, 3) := by decide +kernel
theorem dX7_night_15 : decode cX7_night 15 = .ok (.aload_n 0, 1) := by decide +kernel
theorem dX7_night_16 : decode cX7_night 16 = .ok (.getfield 30, 3) := by decide +kernel
theorem dX7_night_19 : decode cX7_night 19 = .ok (.iload_n 1, 1) := by decide +kernel
theorem dX7_night_20 : decode cX7_night 20 = .ok (.invokevirtual 98, 3) := by decide +kernel
theorem dX7_night_23 : decode cX7_night 23 = .ok (.invokevirtual 62, 3) := by decide +kernel
theorem dX7_night_26 : decode cX7_night 26 = .ok (.ireturn, 1) := by decide +kernel
theorem dX7_of_0 : decode cX7_of 0 = .ok (.aload_n 0, 1) := by decide +kernel
theorem dX7_of_1 : decode cX7_of 1 = .ok (.getfield 12, 3) := by decide +kernel
theorem dX7_of_4 : decode cX7_of 4 = .ok (.iload_n 1, 1) := by decide +kernel
theorem dX7_of_5 : decode cX7_of 5 = .ok (.invokevirtual 101, 3) := by decide +kernel
theorem dX7_of_8 : decode cX7_of 8 = .ok (.ifCond .ne 5, 3) := by decide +kernel
theorem dX7_of_11 : decode cX7_of 11 = .ok (.iconst (-1), 1) := by decide +kernel
theorem dX7_of_12 : decode cX7_of 12 = .ok (.ireturn, 1) := by decide +kernel
theorem dX7_of_13 : decode cX7_of 13 = .ok (.iload_n 2, 1) := by decide +kernel
theorem dX7_of_14 : decode cX7_of 14 = .ok (.ifCond .lt 9, 3) := by decide +kernel
theorem dX7_of_17 : decode cX7_of 17 = .ok (.iload_n 2, 1) := by decide +kernel
theorem dX7_of_18 : decode cX7_of 18 = .ok (.bipush 11, 2) := by decide +kernel
theorem dX7_of_20 : decode cX7_of 20 = .ok (.if_icmp .lt 8, 3) := by decide +kernel
theorem dX7_of_23 : decode cX7_of 23 = .ok (.bipush (-2), 2) := by decide +kernel
theorem dX7_of_25 : decode cX7_of 25 = .ok (.goto 12, 3) := by decide +kernel
theorem dX7_of_28 : decode cX7_of 28 = .ok (.aload_n 0, 1) := by decide +kernel
theorem dX7_of_29 : decode cX7_of 29 = .ok (.getfield 12, 3) := by decide +kernel
theorem dX7_of_32 : decode cX7_of 32 = .ok (.iload_n 1, 1) := by decide +kernel
theorem dX7_of_33 : decode cX7_of 33 = .ok (.iload_n 2, 1) := by decide +kernel
theorem dX7_of_34 : decode cX7_of 34 = .ok (.invokevirtual 105, 3) := by decide +kernel
theorem dX7_of_37 : decode cX7_of 37 = .ok (.ireturn, 1) := by decide +kernel
theorem dX7_ofOrder_0 : decode cX7_ofOrder 0 = .ok (.aload_n 0, 1) := by decide +kernel
theorem dX7_ofOrder_1 : decode cX7_ofOrder 1 = .ok (.getfield 12, 3) := by decide +kernel
theorem dX7_ofOrder_4 : decode cX7_ofOrder 4 = .ok (.iload_n 1, 1) := by decide +kernel
theorem dX7_ofOrder_5 : decode cX7_ofOrder 5 = .ok (.invokevirtual 108, 3) := by decide +kernel
theorem dX7_ofOrder_8 : decode cX7_ofOrder 8 = .ok (.ifCond .ne 5, 3) := by decide +kernel
theorem dX7_ofOrder_11 : decode cX7_ofOrder 11 = .ok (.iconst (-1), 1) := by decide +kernel
theorem dX7_ofOrder_12 : decode cX7_ofOrder 12 = .ok (.ireturn, 1) := by decide +kernel
theorem dX7_ofOrder_13 : decode cX7_ofOrder 13 = .ok (.iload_n 2, 1) := by decide +kernel
theorem dX7_ofOrder_14 : decode cX7_ofOrder 14 = .ok (.ifCond .lt 9, 3) := by decide +kernel
theorem dX7_ofOrder_17 : decode cX7_ofOrder 17 = .ok (.iload_n 2, 1) := by decide +kernel
theorem dX7_ofOrder_18 : decode cX7_ofOrder 18 = .ok (.bipush 6, 2) := by decide +kernel
theorem dX7_ofOrder_20 : decode cX7_ofOrder 20 = .ok (.if_icmp .le 6, 3) := by decide +kernel
theorem dX7_ofOrder_23 : decode cX7_ofOrder 23 = .ok (.bipush (-2), 2) := by decide +kernel
theorem dX7_ofOrder_25 : decode cX7_ofOrder 25 = .ok (.ireturn, 1) := by decide +kernel
theorem dX7_ofOrder_26 : decode cX7_ofOrder 26 = .ok (.iload_n 2, 1) := by decide +kernel
theorem dX7_ofOrder_27 : decode cX7_ofOrder 27 = .ok (.bipush 6, 2) := by decide +kernel
theorem dX7_ofOrder_29 : decode cX7_ofOrder 29 = .ok (.if_icmp .ne 14, 3) := by decide +kernel
theorem dX7_ofOrder_32 : decode cX7_ofOrder 32 = .ok (.aload_n 0, 1) := by decide +kernel
theorem dX7_ofOrder_33 : decode cX7_ofOrder 33 = .ok (.getfield 21, 3) := by decide +kernel
theorem dX7_ofOrder_36 : decode cX7_ofOrder 36 = .ok (.iload_n 1, 1) := by decide +kernel
theorem dX7_ofOrder_37 : decode cX7_ofOrder 37 = .ok (.invokevirtual 111, 3) := by decide +kernel
theorem dX7_ofOrder_40 : decode cX7_ofOrder 40 = .ok (.goto 12, 3) := by decide +kernel
theorem dX7_ofOrder_43 : decode cX7_ofOrder 43 = .ok (.aload_n 0, 1) := by decide +kernel
theorem dX7_ofOrder_44 : decode cX7_ofOrder 44 = .ok (.getfield 12, 3) := by decide +kernel
theorem dX7_ofOrder_47 : decode cX7_ofOrder 47 = .ok (.iload_n 1, 1) := by decide +kernel
theorem dX7_ofOrder_48 : decode cX7_ofOrder 48 = .ok (.iload_n 2, 1) := by decide +kernel
theorem dX7_ofOrder_49 : decode cX7_ofOrder 49 = .ok (.invokevirtual 114, 3) := by decide +kernel
theorem dX7_ofOrder_52 : decode cX7_ofOrder 52 = .ok (.ireturn, 1) := by decide +kernel
theorem dX7_ofLorry_0 : decode cX7_ofLorry 0 = .ok (.iload_n 1, 1) := by decide +kernel
theorem dX7_ofLorry_1 : decode cX7_ofLorry 1 = .ok (.invokestatic 117, 3) := by decide +kernel
theorem dX7_ofLorry_4 : decode cX7_ofLorry 4 = .ok (.ifCond .ne 5, 3) := by decide +kernel
theorem dX7_ofLorry_7 : decode cX7_ofLorry 7 = .ok (.iconst (-1), 1) := by decide +kernel
theorem dX7_ofLorry_8 : decode cX7_ofLorry 8 = .ok (.ireturn, 1) := by decide +kernel
theorem dX7_ofLorry_9 : decode cX7_ofLorry 9 = .ok (.iload_n 2, 1) := by decide +kernel
theorem dX7_ofLorry_10 : decode cX7_ofLorry 10 = .ok (.tableswitch 134 0 7 #[46, 55, 70, 85, 94, 104, 114, 124], 46) := by decide +kernel
theorem dX7_ofLorry_56 : decode cX7_ofLorry 56 = .ok (.aload_n 0, 1) := by decide +kernel
theorem dX7_ofLorry_57 : decode cX7_ofLorry 57 = .ok (.getfield 21, 3) := by decide +kernel
theorem dX7_ofLorry_60 : decode cX7_ofLorry 60 = .ok (.iload_n 1, 1) := by decide +kernel
theorem dX7_ofLorry_61 : decode cX7_ofLorry 61 = .ok (.invokevirtual 120, 3) := by decide +kernel
theorem dX7_ofLorry_64 : decode cX7_ofLorry 64 = .ok (.ireturn, 1) := by decide +kernel
theorem dX7_ofLorry_65 : decode cX7_ofLorry 65 = .ok (.aload_n 0, 1) := by decide +kernel
theorem dX7_ofLorry_66 : decode cX7_ofLorry 66 = .ok (.getfield 21, 3) := by decide +kernel
theorem dX7_ofLorry_69 : decode cX7_ofLorry 69 = .ok (.iload_n 1, 1) := by decide +kernel
theorem dX7_ofLorry_70 : decode cX7_ofLorry 70 = .ok (.bipush (-6), 2) := by decide +kernel
theorem dX7_ofLorry_72 : decode cX7_ofLorry 72 = .ok (.iconst 0, 1) := by decide +kernel
theorem dX7_ofLorry_73 : decode cX7_ofLorry 73 = .ok (.invokevirtual 123, 3) := by decide +kernel
theorem dX7_ofLorry_76 : decode cX7_ofLorry 76 = .ok (.invokestatic 127, 3) := by decide +kernel
theorem dX7_ofLorry_79 : decode cX7_ofLorry 79 = .ok (.ireturn, 1) := by decide +kernel
theorem dX7_ofLorry_80 : decode cX7_ofLorry 80 = .ok (.aload_n 0, 1) := by decide +kernel
theorem dX7_ofLorry_81 : decode cX7_ofLorry 81 = .ok (.getfield 21, 3) := by decide +kernel
theorem dX7_ofLorry_84 : decode cX7_ofLorry 84 = .ok (.iload_n 1, 1) := by decide +kernel
theorem dX7_ofLorry_85 : decode cX7_ofLorry 85 = .ok (.bipush (-6), 2) := by decide +kernel
theorem dX7_ofLorry_87 : decode cX7_ofLorry 87 = .ok (.iconst 0, 1) := by decide +kernel
theorem dX7_ofLorry_88 : decode cX7_ofLorry 88 = .ok (.invokevirtual 133, 3) := by decide +kernel
theorem dX7_ofLorry_91 : decode cX7_ofLorry 91 = .ok (.invokestatic 127, 3) := by decide +kernel
theorem dX7_ofLorry_94 : decode cX7_ofLorry 94 = .ok (.ireturn, 1) := by decide +kernel
theorem dX7_ofLorry_95 : decode cX7_ofLorry 95 = .ok (.aload_n 0, 1) := by decide +kernel
theorem dX7_ofLorry_96 : decode cX7_ofLorry 96 = .ok (.getfield 21, 3) := by decide +kernel
theorem dX7_ofLorry_99 : decode cX7_ofLorry 99 = .ok (.iload_n 1, 1) := by decide +kernel
theorem dX7_ofLorry_100 : decode cX7_ofLorry 100 = .ok (.invokevirtual 136, 3) := by decide +kernel
theorem dX7_ofLorry_103 : decode cX7_ofLorry 103 = .ok (.ireturn, 1) := by decide +kernel
theorem dX7_ofLorry_104 : decode cX7_ofLorry 104 = .ok (.aload_n 0, 1) := by decide +kernel
theorem dX7_ofLorry_105 : decode cX7_ofLorry 105 = .ok (.getfield 12, 3) := by decide +kernel
theorem dX7_ofLorry_108 : decode cX7_ofLorry 108 = .ok (.iload_n 1, 1) := by decide +kernel
theorem dX7_ofLorry_109 : decode cX7_ofLorry 109 = .ok (.iconst 0, 1) := by decide +kernel
theorem dX7_ofLorry_110 : decode cX7_ofLorry 110 = .ok (.invokevirtual 139, 3) := by decide +kernel
theorem dX7_ofLorry_113 : decode cX7_ofLorry 113 = .ok (.ireturn, 1) := by decide +kernel
theorem dX7_ofLorry_114 : decode cX7_ofLorry 114 = .ok (.aload_n 0, 1) := by decide +kernel
theorem dX7_ofLorry_115 : decode cX7_ofLorry 115 = .ok (.getfield 12, 3) := by decide +kernel
theorem dX7_ofLorry_118 : decode cX7_ofLorry 118 = .ok (.iload_n 1, 1) := by decide +kernel
theorem dX7_ofLorry_119 : decode cX7_ofLorry 119 = .ok (.iconst 1, 1) := by decide +kernel
theorem dX7_ofLorry_120 : decode cX7_ofLorry 120 = .ok (.invokevirtual 139, 3) := by decide +kernel
theorem dX7_ofLorry_123 : decode cX7_ofLorry 123 = .ok (.ireturn, 1) := by decide +kernel
theorem dX7_ofLorry_124 : decode cX7_ofLorry 124 = .ok (.aload_n 0, 1) := by decide +kernel
theorem dX7_ofLorry_125 : decode cX7_ofLorry 125 = .ok (.getfield 12, 3) := by decide +kernel
theorem dX7_ofLorry_128 : decode cX7_ofLorry 128 = .ok (.iload_n 1, 1) := by decide +kernel
theorem dX7_ofLorry_129 : decode cX7_ofLorry 129 = .ok (.iconst 2, 1) := by decide +kernel
theorem dX7_ofLorry_130 : decode cX7_ofLorry 130 = .ok (.invokevirtual 139, 3) := by decide +kernel
theorem dX7_ofLorry_133 : decode cX7_ofLorry 133 = .ok (.ireturn, 1) := by decide +kernel
theorem dX7_ofLorry_134 : decode cX7_ofLorry 134 = .ok (.aload_n 0, 1) := by decide +kernel
theorem dX7_ofLorry_135 : decode cX7_ofLorry 135 = .ok (.getfield 12, 3) := by decide +kernel
theorem dX7_ofLorry_138 : decode cX7_ofLorry 138 = .ok (.iload_n 1, 1) := by decide +kernel
theorem dX7_ofLorry_139 : decode cX7_ofLorry 139 = .ok (.iconst 3, 1) := by decide +kernel
theorem dX7_ofLorry_140 : decode cX7_ofLorry 140 = .ok (.invokevirtual 139, 3) := by decide +kernel
theorem dX7_ofLorry_143 : decode cX7_ofLorry 143 = .ok (.ireturn, 1) := by decide +kernel
theorem dX7_ofLorry_144 : decode cX7_ofLorry 144 = .ok (.bipush (-2), 2) := by decide +kernel
theorem dX7_ofLorry_146 : decode cX7_ofLorry 146 = .ok (.ireturn, 1) := by decide +kernel
theorem dX7_count_0 : decode cX7_count 0 = .ok (.iload_n 1, 1) := by decide +kernel
theorem dX7_count_1 : decode cX7_count 1 = .ok (.tableswitch 254 0 16 #[83, 92, 102, 112, 121, 131, 150, 158, 166, 174, 191, 199, 208, 217, 229, 238, 246], 83) := by decide +kernel
theorem dX7_count_84 : decode cX7_count 84 = .ok (.aload_n 0, 1) := by decide +kernel
theorem dX7_count_85 : decode cX7_count 85 = .ok (.getfield 12, 3) := by decide +kernel
theorem dX7_count_88 : decode cX7_count 88 = .ok (.iconst 5, 1) := by decide +kernel
theorem dX7_count_89 : decode cX7_count 89 = .ok (.invokevirtual 142, 3) := by decide +kernel
theorem dX7_count_92 : decode cX7_count 92 = .ok (.ireturn, 1) := by decide +kernel
theorem dX7_count_93 : decode cX7_count 93 = .ok (.aload_n 0, 1) := by decide +kernel
theorem dX7_count_94 : decode cX7_count 94 = .ok (.getfield 12, 3) := by decide +kernel
theorem dX7_count_97 : decode cX7_count 97 = .ok (.bipush 6, 2) := by decide +kernel
theorem dX7_count_99 : decode cX7_count 99 = .ok (.invokevirtual 142, 3) := by decide +kernel
theorem dX7_count_102 : decode cX7_count 102 = .ok (.ireturn, 1) := by decide +kernel
theorem dX7_count_103 : decode cX7_count 103 = .ok (.aload_n 0, 1) := by decide +kernel
theorem dX7_count_104 : decode cX7_count 104 = .ok (.getfield 12, 3) := by decide +kernel
theorem dX7_count_107 : decode cX7_count 107 = .ok (.bipush 7, 2) := by decide +kernel
theorem dX7_count_109 : decode cX7_count 109 = .ok (.invokevirtual 142, 3) := by decide +kernel
theorem dX7_count_112 : decode cX7_count 112 = .ok (.ireturn, 1) := by decide +kernel
theorem dX7_count_113 : decode cX7_count 113 = .ok (.aload_n 0, 1) := by decide +kernel
theorem dX7_count_114 : decode cX7_count 114 = .ok (.getfield 12, 3) := by decide +kernel
theorem dX7_count_117 : decode cX7_count 117 = .ok (.iconst 4, 1) := by decide +kernel
theorem dX7_count_118 : decode cX7_count 118 = .ok (.invokevirtual 142, 3) := by decide +kernel
theorem dX7_count_121 : decode cX7_count 121 = .ok (.ireturn, 1) := by decide +kernel
theorem dX7_count_122 : decode cX7_count 122 = .ok (.aload_n 0, 1) := by decide +kernel
theorem dX7_count_123 : decode cX7_count 123 = .ok (.getfield 12, 3) := by decide +kernel
theorem dX7_count_126 : decode cX7_count 126 = .ok (.iconst 5, 1) := by decide +kernel
theorem dX7_count_127 : decode cX7_count 127 = .ok (.iconst 1, 1) := by decide +kernel
theorem dX7_count_128 : decode cX7_count 128 = .ok (.invokevirtual 145, 3) := by decide +kernel
theorem dX7_count_131 : decode cX7_count 131 = .ok (.ireturn, 1) := by decide +kernel
theorem dX7_count_132 : decode cX7_count 132 = .ok (.aload_n 0, 1) := by decide +kernel
theorem dX7_count_133 : decode cX7_count 133 = .ok (.getfield 12, 3) := by decide +kernel
theorem dX7_count_136 : decode cX7_count 136 = .ok (.bipush 7, 2) := by decide +kernel
theorem dX7_count_138 : decode cX7_count 138 = .ok (.iconst 1, 1) := by decide +kernel
theorem dX7_count_139 : decode cX7_count 139 = .ok (.invokevirtual 145, 3) := by decide +kernel
theorem dX7_count_142 : decode cX7_count 142 = .ok (.aload_n 0, 1) := by decide +kernel
theorem dX7_count_143 : decode cX7_count 143 = .ok (.getfield 21, 3) := by decide +kernel
theorem dX7_count_146 : decode cX7_count 146 = .ok (.invokevirtual 148, 3) := by decide +kernel
theorem dX7_count_149 : decode cX7_count 149 = .ok (.iand, 1) := by decide +kernel
theorem dX7_count_150 : decode cX7_count 150 = .ok (.ireturn, 1) := by decide +kernel
theorem dX7_count_151 : decode cX7_count 151 = .ok (.aload_n 0, 1) := by decide +kernel
theorem dX7_count_152 : decode cX7_count 152 = .ok (.getfield 21, 3) := by decide +kernel
theorem dX7_count_155 : decode cX7_count 155 = .ok (.invokevirtual 152, 3) := by decide +kernel
theorem dX7_count_158 : decode cX7_count 158 = .ok (.ireturn, 1) := by decide +kernel
theorem dX7_count_159 : decode cX7_count 159 = .ok (.aload_n 0, 1) := by decide +kernel
theorem dX7_count_160 : decode cX7_count 160 = .ok (.getfield 21, 3) := by decide +kernel
theorem dX7_count_163 : decode cX7_count 163 = .ok (.invokevirtual 155, 3) := by decide +kernel
theorem dX7_count_166 : decode cX7_count 166 = .ok (.ireturn, 1) := by decide +kernel
theorem dX7_count_167 : decode cX7_count 167 = .ok (.aload_n 0, 1) := by decide +kernel
theorem dX7_count_168 : decode cX7_count 168 = .ok (.getfield 21, 3) := by decide +kernel
theorem dX7_count_171 : decode cX7_count 171 = .ok (.invokevirtual 158, 3) := by decide +kernel
theorem dX7_count_174 : decode cX7_count 174 = .ok (.ireturn, 1) := by decide +kernel
theorem dX7_count_175 : decode cX7_count 175 = .ok (.aload_n 0, 1) := by decide +kernel
theorem dX7_count_176 : decode cX7_count 176 = .ok (.getfield 21, 3) := by decide +kernel
theorem dX7_count_179 : decode cX7_count 179 = .ok (.aload_n 0, 1) := by decide +kernel
theorem dX7_count_180 : decode cX7_count 180 = .ok (.getfield 12, 3) := by decide +kernel
theorem dX7_count_183 : decode cX7_count 183 = .ok (.iconst 5, 1) := by decide +kernel
theorem dX7_count_184 : decode cX7_count 184 = .ok (.iconst 3, 1) := by decide +kernel
theorem dX7_count_185 : decode cX7_count 185 = .ok (.invokevirtual 145, 3) := by decide +kernel
theorem dX7_count_188 : decode cX7_count 188 = .ok (.invokevirtual 161, 3) := by decide +kernel
theorem dX7_count_191 : decode cX7_count 191 = .ok (.ireturn, 1) := by decide +kernel
theorem dX7_count_192 : decode cX7_count 192 = .ok (.aload_n 0, 1) := by decide +kernel
theorem dX7_count_193 : decode cX7_count 193 = .ok (.getfield 21, 3) := by decide +kernel
theorem dX7_count_196 : decode cX7_count 196 = .ok (.invokevirtual 164, 3) := by decide +kernel
theorem dX7_count_199 : decode cX7_count 199 = .ok (.ireturn, 1) := by decide +kernel
theorem dX7_count_200 : decode cX7_count 200 = .ok (.aload_n 0, 1) := by decide +kernel
theorem dX7_count_201 : decode cX7_count 201 = .ok (.getfield 12, 3) := by decide +kernel
theorem dX7_count_204 : decode cX7_count 204 = .ok (.iconst 1, 1) := by decide +kernel
theorem dX7_count_205 : decode cX7_count 205 = .ok (.invokevirtual 142, 3) := by decide +kernel
theorem dX7_count_208 : decode cX7_count 208 = .ok (.ireturn, 1) := by decide +kernel
theorem dX7_count_209 : decode cX7_count 209 = .ok (.aload_n 0, 1) := by decide +kernel
theorem dX7_count_210 : decode cX7_count 210 = .ok (.getfield 12, 3) := by decide +kernel
theorem dX7_count_213 : decode cX7_count 213 = .ok (.iconst 0, 1) := by decide +kernel
theorem dX7_count_214 : decode cX7_count 214 = .ok (.invokevirtual 142, 3) := by decide +kernel
theorem dX7_count_217 : decode cX7_count 217 = .ok (.ireturn, 1) := by decide +kernel
theorem dX7_count_218 : decode cX7_count 218 = .ok (.aload_n 0, 1) := by decide +kernel
theorem dX7_count_219 : decode cX7_count 219 = .ok (.getfield 12, 3) := by decide +kernel
theorem dX7_count_222 : decode cX7_count 222 = .ok (.iconst 2, 1) := by decide +kernel
theorem dX7_count_223 : decode cX7_count 223 = .ok (.invokevirtual 142, 3) := by decide +kernel
theorem dX7_count_226 : decode cX7_count 226 = .ok (.bipush 100, 2) := by decide +kernel
theorem dX7_count_228 : decode cX7_count 228 = .ok (.iadd, 1) := by decide +kernel
theorem dX7_count_229 : decode cX7_count 229 = .ok (.ireturn, 1) := by decide +kernel
theorem dX7_count_230 : decode cX7_count 230 = .ok (.aload_n 0, 1) := by decide +kernel
theorem dX7_count_231 : decode cX7_count 231 = .ok (.getfield 12, 3) := by decide +kernel
theorem dX7_count_234 : decode cX7_count 234 = .ok (.iconst 3, 1) := by decide +kernel
theorem dX7_count_235 : decode cX7_count 235 = .ok (.invokevirtual 142, 3) := by decide +kernel
theorem dX7_count_238 : decode cX7_count 238 = .ok (.ireturn, 1) := by decide +kernel
theorem dX7_count_239 : decode cX7_count 239 = .ok (.aload_n 0, 1) := by decide +kernel
theorem dX7_count_240 : decode cX7_count 240 = .ok (.getfield 51, 3) := by decide +kernel
theorem dX7_count_243 : decode cX7_count 243 = .ok (.invokevirtual 167, 3) := by decide +kernel
theorem dX7_count_246 : decode cX7_count 246 = .ok (.ireturn, 1) := by decide +kernel
theorem dX7_count_247 : decode cX7_count 247 = .ok (.aload_n 0, 1) := by decide +kernel
theorem dX7_count_248 : decode cX7_count 248 = .ok (.getfield 37, 3) := by decide +kernel
theorem dX7_count_251 : decode cX7_count 251 = .ok (.invokevirtual 170, 3) := by decide +kernel
theorem dX7_count_254 : decode cX7_count 254 = .ok (.ireturn, 1) := by decide +kernel
theorem dX7_count_255 : decode cX7_count 255 = .ok (.bipush (-2), 2) := by decide +kernel
theorem dX7_count_257 : decode cX7_count 257 = .ok (.ireturn, 1) := by decide +kernel
theorem dX7_meanWeight_0 : decode cX7_meanWeight 0 = .ok (.aload_n 0, 1) := by decide +kernel
theorem dX7_meanWeight_1 : decode cX7_meanWeight 1 = .ok (.getfield 21, 3) := by decide +kernel
theorem dX7_meanWeight_4 : decode cX7_meanWeight 4 = .ok (.invokevirtual 148, 3) := by decide +kernel
theorem dX7_meanWeight_7 : decode cX7_meanWeight 7 = .ok (.invokestatic 173, 3) := by decide +kernel
theorem dX7_meanWeight_10 : decode cX7_meanWeight 10 = .ok (.istore_n 1, 1) := by decide +kernel
theorem dX7_meanWeight_11 : decode cX7_meanWeight 11 = .ok (.iload_n 1, 1) := by decide +kernel
theorem dX7_meanWeight_12 : decode cX7_meanWeight 12 = .ok (.ifCond .ne 7, 3) := by decide +kernel
theorem dX7_meanWeight_15 : decode cX7_meanWeight 15 = .ok (.lconst 0, 1) := by decide +kernel
theorem dX7_meanWeight_16 : decode cX7_meanWeight 16 = .ok (.goto 17, 3) := by decide +kernel
theorem dX7_meanWeight_19 : decode cX7_meanWeight 19 = .ok (.aload_n 0, 1) := by decide +kernel
theorem dX7_meanWeight_20 : decode cX7_meanWeight 20 = .ok (.getfield 21, 3) := by decide +kernel
theorem dX7_meanWeight_23 : decode cX7_meanWeight 23 = .ok (.invokevirtual 155, 3) := by decide +kernel
theorem dX7_meanWeight_26 : decode cX7_meanWeight 26 = .ok (.i2d, 1) := by decide +kernel
theorem dX7_meanWeight_27 : decode cX7_meanWeight 27 = .ok (.iload_n 1, 1) := by decide +kernel
theorem dX7_meanWeight_28 : decode cX7_meanWeight 28 = .ok (.i2d, 1) := by decide +kernel
theorem dX7_meanWeight_29 : decode cX7_meanWeight 29 = .ok (.ddiv, 1) := by decide +kernel
theorem dX7_meanWeight_30 : decode cX7_meanWeight 30 = .ok (.invokestatic 178, 3) := by decide +kernel
theorem dX7_meanWeight_33 : decode cX7_meanWeight 33 = .ok (.lreturn, 1) := by decide +kernel
theorem dX7_why_0 : decode cX7_why 0 = .ok (.iload_n 1, 1) := by decide +kernel
theorem dX7_why_1 : decode cX7_why 1 = .ok (.invokestatic 117, 3) := by decide +kernel
theorem dX7_why_4 : decode cX7_why 4 = .ok (.ifCond .eq 14, 3) := by decide +kernel
theorem dX7_why_7 : decode cX7_why 7 = .ok (.aload_n 0, 1) := by decide +kernel
theorem dX7_why_8 : decode cX7_why 8 = .ok (.getfield 21, 3) := by decide +kernel
theorem dX7_why_11 : decode cX7_why 11 = .ok (.iload_n 1, 1) := by decide +kernel
theorem dX7_why_12 : decode cX7_why 12 = .ok (.invokevirtual 182, 3) := by decide +kernel
theorem dX7_why_15 : decode cX7_why 15 = .ok (.goto 4, 3) := by decide +kernel
theorem dX7_why_18 : decode cX7_why 18 = .ok (.iconst (-1), 1) := by decide +kernel
theorem dX7_why_19 : decode cX7_why 19 = .ok (.ireturn, 1) := by decide +kernel
theorem dX7_bestBlock_0 : decode cX7_bestBlock 0 = .ok (.aload_n 0, 1) := by decide +kernel
theorem dX7_bestBlock_1 : decode cX7_bestBlock 1 = .ok (.getfield 12, 3) := by decide +kernel
theorem dX7_bestBlock_4 : decode cX7_bestBlock 4 = .ok (.iload_n 1, 1) := by decide +kernel
theorem dX7_bestBlock_5 : decode cX7_bestBlock 5 = .ok (.invokevirtual 108, 3) := by decide +kernel
theorem dX7_bestBlock_8 : decode cX7_bestBlock 8 = .ok (.ifCond .ne 5, 3) := by decide +kernel
theorem dX7_bestBlock_11 : decode cX7_bestBlock 11 = .ok (.iconst (-1), 1) := by decide +kernel
theorem dX7_bestBlock_12 : decode cX7_bestBlock 12 = .ok (.ireturn, 1) := by decide +kernel
theorem dX7_bestBlock_13 : decode cX7_bestBlock 13 = .ok (.aload_n 0, 1) := by decide +kernel
theorem dX7_bestBlock_14 : decode cX7_bestBlock 14 = .ok (.getfield 12, 3) := by decide +kernel
theorem dX7_bestBlock_17 : decode cX7_bestBlock 17 = .ok (.iload_n 1, 1) := by decide +kernel
theorem dX7_bestBlock_18 : decode cX7_bestBlock 18 = .ok (.iconst 3, 1) := by decide +kernel
theorem dX7_bestBlock_19 : decode cX7_bestBlock 19 = .ok (.invokevirtual 114, 3) := by decide +kernel
theorem dX7_bestBlock_22 : decode cX7_bestBlock 22 = .ok (.ifCond .ne 14, 3) := by decide +kernel
theorem dX7_bestBlock_25 : decode cX7_bestBlock 25 = .ok (.aload_n 0, 1) := by decide +kernel
theorem dX7_bestBlock_26 : decode cX7_bestBlock 26 = .ok (.getfield 21, 3) := by decide +kernel
theorem dX7_bestBlock_29 : decode cX7_bestBlock 29 = .ok (.iload_n 1, 1) := by decide +kernel
theorem dX7_bestBlock_30 : decode cX7_bestBlock 30 = .ok (.invokevirtual 185, 3) := by decide +kernel
theorem dX7_bestBlock_33 : decode cX7_bestBlock 33 = .ok (.goto 5, 3) := by decide +kernel
theorem dX7_bestBlock_36 : decode cX7_bestBlock 36 = .ok (.bipush (-5), 2) := by decide +kernel
theorem dX7_bestBlock_38 : decode cX7_bestBlock 38 = .ok (.ireturn, 1) := by decide +kernel
theorem dX7_fittingCut_0 : decode cX7_fittingCut 0 = .ok (.aload_n 0, 1) := by decide +kernel
theorem dX7_fittingCut_1 : decode cX7_fittingCut 1 = .ok (.getfield 12, 3) := by decide +kernel
theorem dX7_fittingCut_4 : decode cX7_fittingCut 4 = .ok (.iload_n 1, 1) := by decide +kernel
theorem dX7_fittingCut_5 : decode cX7_fittingCut 5 = .ok (.invokevirtual 108, 3) := by decide +kernel
theorem dX7_fittingCut_8 : decode cX7_fittingCut 8 = .ok (.ifCond .eq 14, 3) := by decide +kernel
theorem dX7_fittingCut_11 : decode cX7_fittingCut 11 = .ok (.aload_n 0, 1) := by decide +kernel
theorem dX7_fittingCut_12 : decode cX7_fittingCut 12 = .ok (.getfield 12, 3) := by decide +kernel
theorem dX7_fittingCut_15 : decode cX7_fittingCut 15 = .ok (.iload_n 2, 1) := by decide +kernel
theorem dX7_fittingCut_16 : decode cX7_fittingCut 16 = .ok (.invokevirtual 101, 3) := by decide +kernel
theorem dX7_fittingCut_19 : decode cX7_fittingCut 19 = .ok (.ifCond .ne 5, 3) := by decide +kernel
theorem dX7_fittingCut_22 : decode cX7_fittingCut 22 = .ok (.iconst (-1), 1) := by decide +kernel
theorem dX7_fittingCut_23 : decode cX7_fittingCut 23 = .ok (.ireturn, 1) := by decide +kernel
theorem dX7_fittingCut_24 : decode cX7_fittingCut 24 = .ok (.iload_n 3, 1) := by decide +kernel
theorem dX7_fittingCut_25 : decode cX7_fittingCut 25 = .ok (.ifCond .eq 11, 3) := by decide +kernel
theorem dX7_fittingCut_28 : decode cX7_fittingCut 28 = .ok (.iload_n 3, 1) := by decide +kernel
theorem dX7_fittingCut_29 : decode cX7_fittingCut 29 = .ok (.iconst 1, 1) := by decide +kernel
theorem dX7_fittingCut_30 : decode cX7_fittingCut 30 = .ok (.if_icmp .eq 6, 3) := by decide +kernel
theorem dX7_fittingCut_33 : decode cX7_fittingCut 33 = .ok (.bipush (-2), 2) := by decide +kernel
theorem dX7_fittingCut_35 : decode cX7_fittingCut 35 = .ok (.ireturn, 1) := by decide +kernel
theorem dX7_fittingCut_36 : decode cX7_fittingCut 36 = .ok (.aload_n 0, 1) := by decide +kernel
theorem dX7_fittingCut_37 : decode cX7_fittingCut 37 = .ok (.getfield 21, 3) := by decide +kernel
theorem dX7_fittingCut_40 : decode cX7_fittingCut 40 = .ok (.iload_n 2, 1) := by decide +kernel
theorem dX7_fittingCut_41 : decode cX7_fittingCut 41 = .ok (.invokevirtual 188, 3) := by decide +kernel
theorem dX7_fittingCut_44 : decode cX7_fittingCut 44 = .ok (.ifCond .ne 6, 3) := by decide +kernel
theorem dX7_fittingCut_47 : decode cX7_fittingCut 47 = .ok (.bipush (-5), 2) := by decide +kernel
theorem dX7_fittingCut_49 : decode cX7_fittingCut 49 = .ok (.ireturn, 1) := by decide +kernel
theorem dX7_fittingCut_50 : decode cX7_fittingCut 50 = .ok (.iconst 0, 1) := by decide +kernel
theorem dX7_fittingCut_51 : decode cX7_fittingCut 51 = .ok (.istore 4, 2) := by decide +kernel
theorem dX7_fittingCut_53 : decode cX7_fittingCut 53 = .ok (.iload 4, 2) := by decide +kernel
theorem dX7_fittingCut_55 : decode cX7_fittingCut 55 = .ok (.iconst 3, 1) := by decide +kernel
theorem dX7_fittingCut_56 : decode cX7_fittingCut 56 = .ok (.if_icmp .ge 41, 3) := by decide +kernel
theorem dX7_fittingCut_59 : decode cX7_fittingCut 59 = .ok (.aload_n 0, 1) := by decide +kernel
theorem dX7_fittingCut_60 : decode cX7_fittingCut 60 = .ok (.getfield 21, 3) := by decide +kernel
theorem dX7_fittingCut_63 : decode cX7_fittingCut 63 = .ok (.iload_n 1, 1) := by decide +kernel
theorem dX7_fittingCut_64 : decode cX7_fittingCut 64 = .ok (.iload_n 2, 1) := by decide +kernel
theorem dX7_fittingCut_65 : decode cX7_fittingCut 65 = .ok (.iload 4, 2) := by decide +kernel
theorem dX7_fittingCut_67 : decode cX7_fittingCut 67 = .ok (.invokevirtual 191, 3) := by decide +kernel
theorem dX7_fittingCut_70 : decode cX7_fittingCut 70 = .ok (.istore 5, 2) := by decide +kernel
theorem dX7_fittingCut_72 : decode cX7_fittingCut 72 = .ok (.iload 5, 2) := by decide +kernel
theorem dX7_fittingCut_74 : decode cX7_fittingCut 74 = .ok (.bipush (-6), 2) := by decide +kernel
theorem dX7_fittingCut_76 : decode cX7_fittingCut 76 = .ok (.if_icmp .eq 15, 3) := by decide +kernel
theorem dX7_fittingCut_79 : decode cX7_fittingCut 79 = .ok (.iload_n 3, 1) := by decide +kernel
theorem dX7_fittingCut_80 : decode cX7_fittingCut 80 = .ok (.ifCond .ne 8, 3) := by decide +kernel
theorem dX7_fittingCut_83 : decode cX7_fittingCut 83 = .ok (.iload 4, 2) := by decide +kernel
theorem dX7_fittingCut_85 : decode cX7_fittingCut 85 = .ok (.goto 5, 3) := by decide +kernel
theorem dX7_fittingCut_88 : decode cX7_fittingCut 88 = .ok (.iload 5, 2) := by decide +kernel
theorem dX7_fittingCut_90 : decode cX7_fittingCut 90 = .ok (.ireturn, 1) := by decide +kernel
theorem dX7_fittingCut_91 : decode cX7_fittingCut 91 = .ok (.iinc 4 1, 3) := by decide +kernel
theorem dX7_fittingCut_94 : decode cX7_fittingCut 94 = .ok (.goto (-41), 3) := by decide +kernel
theorem dX7_fittingCut_97 : decode cX7_fittingCut 97 = .ok (.bipush (-6), 2) := by decide +kernel
theorem dX7_fittingCut_99 : decode cX7_fittingCut 99 = .ok (.ireturn, 1) := by decide +kernel
theorem dX7_ifFrost_0 : decode cX7_ifFrost 0 = .ok (.aload_n 0, 1) := by decide +kernel
theorem dX7_ifFrost_1 : decode cX7_ifFrost 1 = .ok (.getfield 21, 3) := by decide +kernel
theorem dX7_ifFrost_4 : decode cX7_ifFrost 4 = .ok (.invokevirtual 194, 3) := by decide +kernel
theorem dX7_ifFrost_7 : decode cX7_ifFrost 7 = .ok (.aload_n 0, 1) := by decide +kernel
theorem dX7_ifFrost_8 : decode cX7_ifFrost 8 = .ok (.getfield 12, 3) := by decide +kernel
theorem dX7_ifFrost_11 : decode cX7_ifFrost 11 = .ok (.bipush 7, 2) := by decide +kernel
theorem dX7_ifFrost_13 : decode cX7_ifFrost 13 = .ok (.iconst 0, 1) := by decide +kernel
theorem dX7_ifFrost_14 : decode cX7_ifFrost 14 = .ok (.invokevirtual 145, 3) := by decide +kernel
theorem dX7_ifFrost_17 : decode cX7_ifFrost 17 = .ok (.iand, 1) := by decide +kernel
theorem dX7_ifFrost_18 : decode cX7_ifFrost 18 = .ok (.ireturn, 1) := by decide +kernel
theorem dX7_bestPlace_0 : decode cX7_bestPlace 0 = .ok (.aload_n 0, 1) := by decide +kernel
theorem dX7_bestPlace_1 : decode cX7_bestPlace 1 = .ok (.getfield 12, 3) := by decide +kernel
theorem dX7_bestPlace_4 : decode cX7_bestPlace 4 = .ok (.iload_n 1, 1) := by decide +kernel
theorem dX7_bestPlace_5 : decode cX7_bestPlace 5 = .ok (.invokevirtual 101, 3) := by decide +kernel
theorem dX7_bestPlace_8 : decode cX7_bestPlace 8 = .ok (.ifCond .eq 10, 3) := by decide +kernel
theorem dX7_bestPlace_11 : decode cX7_bestPlace 11 = .ok (.iload_n 2, 1) := by decide +kernel
theorem dX7_bestPlace_12 : decode cX7_bestPlace 12 = .ok (.invokestatic 117, 3) := by decide +kernel
theorem dX7_bestPlace_15 : decode cX7_bestPlace 15 = .ok (.ifCond .ne 5, 3) := by decide +kernel
theorem dX7_bestPlace_18 : decode cX7_bestPlace 18 = .ok (.iconst (-1), 1) := by decide +kernel
theorem dX7_bestPlace_19 : decode cX7_bestPlace 19 = .ok (.ireturn, 1) := by decide +kernel
theorem dX7_bestPlace_20 : decode cX7_bestPlace 20 = .ok (.aload_n 0, 1) := by decide +kernel
theorem dX7_bestPlace_21 : decode cX7_bestPlace 21 = .ok (.getfield 21, 3) := by decide +kernel
theorem dX7_bestPlace_24 : decode cX7_bestPlace 24 = .ok (.iload_n 1, 1) := by decide +kernel
theorem dX7_bestPlace_25 : decode cX7_bestPlace 25 = .ok (.invokevirtual 197, 3) := by decide +kernel
theorem dX7_bestPlace_28 : decode cX7_bestPlace 28 = .ok (.ifCond .eq 15, 3) := by decide +kernel
theorem dX7_bestPlace_31 : decode cX7_bestPlace 31 = .ok (.aload_n 0, 1) := by decide +kernel
theorem dX7_bestPlace_32 : decode cX7_bestPlace 32 = .ok (.getfield 21, 3) := by decide +kernel
theorem dX7_bestPlace_35 : decode cX7_bestPlace 35 = .ok (.iload_n 1, 1) := by decide +kernel
theorem dX7_bestPlace_36 : decode cX7_bestPlace 36 = .ok (.iload_n 2, 1) := by decide +kernel
theorem dX7_bestPlace_37 : decode cX7_bestPlace 37 = .ok (.invokevirtual 200, 3) := by decide +kernel
theorem dX7_bestPlace_40 : decode cX7_bestPlace 40 = .ok (.goto 5, 3) := by decide +kernel
theorem dX7_bestPlace_43 : decode cX7_bestPlace 43 = .ok (.bipush (-5), 2) := by decide +kernel
theorem dX7_bestPlace_45 : decode cX7_bestPlace 45 = .ok (.ireturn, 1) := by decide +kernel
theorem dX7_undo_0 : decode cX7_undo 0 = .ok (.aload_n 0, 1) := by decide +kernel
theorem dX7_undo_1 : decode cX7_undo 1 = .ok (.getfield 37, 3) := by decide +kernel
theorem dX7_undo_4 : decode cX7_undo 4 = .ok (.aload_n 0, 1) := by decide +kernel
theorem dX7_undo_5 : decode cX7_undo 5 = .ok (.getfield 12, 3) := by decide +kernel
theorem dX7_undo_8 : decode cX7_undo 8 = .ok (.invokevirtual 229, 3) := by decide +kernel
theorem dX7_undo_11 : decode cX7_undo 11 = .ok (.ireturn, 1) := by decide +kernel
theorem dX7_isLorry_0 : decode cX7_isLorry 0 = .ok (.iload_n 0, 1) := by decide +kernel
theorem dX7_isLorry_1 : decode cX7_isLorry 1 = .ok (.ifCond .lt 12, 3) := by decide +kernel
theorem dX7_isLorry_4 : decode cX7_isLorry 4 = .ok (.iload_n 0, 1) := by decide +kernel
theorem dX7_isLorry_5 : decode cX7_isLorry 5 = .ok (.iconst 3, 1) := by decide +kernel
theorem dX7_isLorry_6 : decode cX7_isLorry 6 = .ok (.if_icmp .ge 7, 3) := by decide +kernel
theorem dX7_isLorry_9 : decode cX7_isLorry 9 = .ok (.iconst 1, 1) := by decide +kernel
theorem dX7_isLorry_10 : decode cX7_isLorry 10 = .ok (.goto 4, 3) := by decide +kernel
theorem dX7_isLorry_13 : decode cX7_isLorry 13 = .ok (.iconst 0, 1) := by decide +kernel
theorem dX7_isLorry_14 : decode cX7_isLorry 14 = .ok (.ireturn, 1) := by decide +kernel
theorem dX7_isSize_0 : decode cX7_isSize 0 = .ok (.iload_n 0, 1) := by decide +kernel
theorem dX7_isSize_1 : decode cX7_isSize 1 = .ok (.iconst 1, 1) := by decide +kernel
theorem dX7_isSize_2 : decode cX7_isSize 2 = .ok (.if_icmp .lt 14, 3) := by decide +kernel
theorem dX7_isSize_5 : decode cX7_isSize 5 = .ok (.iload_n 0, 1) := by decide +kernel
theorem dX7_isSize_6 : decode cX7_isSize 6 = .ok (.sipush 300, 3) := by decide +kernel
theorem dX7_isSize_9 : decode cX7_isSize 9 = .ok (.if_icmp .gt 7, 3) := by decide +kernel
theorem dX7_isSize_12 : decode cX7_isSize 12 = .ok (.iconst 1, 1) := by decide +kernel
theorem dX7_isSize_13 : decode cX7_isSize 13 = .ok (.goto 4, 3) := by decide +kernel
theorem dX7_isSize_16 : decode cX7_isSize 16 = .ok (.iconst 0, 1) := by decide +kernel
theorem dX7_isSize_17 : decode cX7_isSize 17 = .ok (.ireturn, 1) := by decide +kernel
theorem dX7_greatestOf_0 : decode cX7_greatestOf 0 = .ok (.iload_n 0, 1) := by decide +kernel
theorem dX7_greatestOf_1 : decode cX7_greatestOf 1 = .ok (.iload_n 1, 1) := by decide +kernel
theorem dX7_greatestOf_2 : decode cX7_greatestOf 2 = .ok (.iload_n 2, 1) := by decide +kernel
theorem dX7_greatestOf_3 : decode cX7_greatestOf 3 = .ok (.invokestatic 243, 3) := by decide +kernel
theorem dX7_greatestOf_6 : decode cX7_greatestOf 6 = .ok (.invokestatic 243, 3) := by decide +kernel
theorem dX7_greatestOf_9 : decode cX7_greatestOf 9 = .ok (.ireturn, 1) := by decide +kernel
theorem dX7_leastOf_0 : decode cX7_leastOf 0 = .ok (.iload_n 0, 1) := by decide +kernel
theorem dX7_leastOf_1 : decode cX7_leastOf 1 = .ok (.iload_n 1, 1) := by decide +kernel
theorem dX7_leastOf_2 : decode cX7_leastOf 2 = .ok (.iload_n 2, 1) := by decide +kernel
theorem dX7_leastOf_3 : decode cX7_leastOf 3 = .ok (.invokestatic 248, 3) := by decide +kernel
theorem dX7_leastOf_6 : decode cX7_leastOf 6 = .ok (.invokestatic 248, 3) := by decide +kernel
theorem dX7_leastOf_9 : decode cX7_leastOf 9 = .ok (.ireturn, 1) := by decide +kernel
theorem dX7_middleOf_0 : decode cX7_middleOf 0 = .ok (.iload_n 0, 1) := by decide +kernel
theorem dX7_middleOf_1 : decode cX7_middleOf 1 = .ok (.iload_n 1, 1) := by decide +kernel
theorem dX7_middleOf_2 : decode cX7_middleOf 2 = .ok (.iadd, 1) := by decide +kernel
theorem dX7_middleOf_3 : decode cX7_middleOf 3 = .ok (.iload_n 2, 1) := by decide +kernel
theorem dX7_middleOf_4 : decode cX7_middleOf 4 = .ok (.iadd, 1) := by decide +kernel
theorem dX7_middleOf_5 : decode cX7_middleOf 5 = .ok (.iload_n 0, 1) := by decide +kernel
theorem dX7_middleOf_6 : decode cX7_middleOf 6 = .ok (.iload_n 1, 1) := by decide +kernel
theorem dX7_middleOf_7 : decode cX7_middleOf 7 = .ok (.iload_n 2, 1) := by decide +kernel
theorem dX7_middleOf_8 : decode cX7_middleOf 8 = .ok (.invokestatic 251, 3) := by decide +kernel
theorem dX7_middleOf_11 : decode cX7_middleOf 11 = .ok (.isub, 1) := by decide +kernel
theorem dX7_middleOf_12 : decode cX7_middleOf 12 = .ok (.iload_n 0, 1) := by decide +kernel
theorem dX7_middleOf_13 : decode cX7_middleOf 13 = .ok (.iload_n 1, 1) := by decide +kernel
theorem dX7_middleOf_14 : decode cX7_middleOf 14 = .ok (.iload_n 2, 1) := by decide +kernel
theorem dX7_middleOf_15 : decode cX7_middleOf 15 = .ok (.invokestatic 254, 3) := by decide +kernel
theorem dX7_middleOf_18 : decode cX7_middleOf 18 = .ok (.isub, 1) := by decide +kernel
theorem dX7_middleOf_19 : decode cX7_middleOf 19 = .ok (.ireturn, 1) := by decide +kernel
theorem dX7_copyRow_0 : decode cX7_copyRow 0 = .ok (.aload_n 0, 1) := by decide +kernel
theorem dX7_copyRow_1 : decode cX7_copyRow 1 = .ok (.ifnull 23, 3) := by decide +kernel
theorem dX7_copyRow_4 : decode cX7_copyRow 4 = .ok (.aload_n 1, 1) := by decide +kernel
theorem dX7_copyRow_5 : decode cX7_copyRow 5 = .ok (.ifnull 19, 3) := by decide +kernel
theorem dX7_copyRow_8 : decode cX7_copyRow 8 = .ok (.aload_n 0, 1) := by decide +kernel
theorem dX7_copyRow_9 : decode cX7_copyRow 9 = .ok (.arraylength, 1) := by decide +kernel
theorem dX7_copyRow_10 : decode cX7_copyRow 10 = .ok (.aload_n 1, 1) := by decide +kernel
theorem dX7_copyRow_11 : decode cX7_copyRow 11 = .ok (.arraylength, 1) := by decide +kernel
theorem dX7_copyRow_12 : decode cX7_copyRow 12 = .ok (.if_icmp .ne 12, 3) := by decide +kernel
theorem dX7_copyRow_15 : decode cX7_copyRow 15 = .ok (.aload_n 0, 1) := by decide +kernel
theorem dX7_copyRow_16 : decode cX7_copyRow 16 = .ok (.iconst 0, 1) := by decide +kernel
theorem dX7_copyRow_17 : decode cX7_copyRow 17 = .ok (.aload_n 1, 1) := by decide +kernel
theorem dX7_copyRow_18 : decode cX7_copyRow 18 = .ok (.iconst 0, 1) := by decide +kernel
theorem dX7_copyRow_19 : decode cX7_copyRow 19 = .ok (.aload_n 0, 1) := by decide +kernel
theorem dX7_copyRow_20 : decode cX7_copyRow 20 = .ok (.arraylength, 1) := by decide +kernel
theorem dX7_copyRow_21 : decode cX7_copyRow 21 = .ok (.invokestatic 257, 3) := by decide +kernel
theorem dX7_copyRow_24 : decode cX7_copyRow 24 = .ok (.return_, 1) := by decide +kernel
theorem dJ6_bitCount_0f7a4_0 : decode cJ6_bitCount_0f7a4 0 = .ok (.iload_n 0, 1) := by decide +kernel
theorem dJ6_bitCount_0f7a4_1 : decode cJ6_bitCount_0f7a4 1 = .ok (.iload_n 0, 1) := by decide +kernel
theorem dJ6_bitCount_0f7a4_2 : decode cJ6_bitCount_0f7a4 2 = .ok (.iconst 1, 1) := by decide +kernel
theorem dJ6_bitCount_0f7a4_3 : decode cJ6_bitCount_0f7a4 3 = .ok (.iushr, 1) := by decide +kernel
theorem dJ6_bitCount_0f7a4_4 : decode cJ6_bitCount_0f7a4 4 = .ok (.ldc_w 265, 3) := by decide +kernel
theorem dJ6_bitCount_0f7a4_7 : decode cJ6_bitCount_0f7a4 7 = .ok (.iand, 1) := by decide +kernel
theorem dJ6_bitCount_0f7a4_8 : decode cJ6_bitCount_0f7a4 8 = .ok (.isub, 1) := by decide +kernel
theorem dJ6_bitCount_0f7a4_9 : decode cJ6_bitCount_0f7a4 9 = .ok (.istore_n 0, 1) := by decide +kernel
theorem dJ6_bitCount_0f7a4_10 : decode cJ6_bitCount_0f7a4 10 = .ok (.iload_n 0, 1) := by decide +kernel
theorem dJ6_bitCount_0f7a4_11 : decode cJ6_bitCount_0f7a4 11 = .ok (.ldc_w 266, 3) := by decide +kernel
theorem dJ6_bitCount_0f7a4_14 : decode cJ6_bitCount_0f7a4 14 = .ok (.iand, 1) := by decide +kernel
theorem dJ6_bitCount_0f7a4_15 : decode cJ6_bitCount_0f7a4 15 = .ok (.iload_n 0, 1) := by decide +kernel
theorem dJ6_bitCount_0f7a4_16 : decode cJ6_bitCount_0f7a4 16 = .ok (.iconst 2, 1) := by decide +kernel
theorem dJ6_bitCount_0f7a4_17 : decode cJ6_bitCount_0f7a4 17 = .ok (.iushr, 1) := by decide +kernel
theorem dJ6_bitCount_0f7a4_18 : decode cJ6_bitCount_0f7a4 18 = .ok (.ldc_w 266, 3) := by decide +kernel
theorem dJ6_bitCount_0f7a4_21 : decode cJ6_bitCount_0f7a4 21 = .ok (.iand, 1) := by decide +kernel
theorem dJ6_bitCount_0f7a4_22 : decode cJ6_bitCount_0f7a4 22 = .ok (.iadd, 1) := by decide +kernel
theorem dJ6_bitCount_0f7a4_23 : decode cJ6_bitCount_0f7a4 23 = .ok (.istore_n 0, 1) := by decide +kernel
theorem dJ6_bitCount_0f7a4_24 : decode cJ6_bitCount_0f7a4 24 = .ok (.iload_n 0, 1) := by decide +kernel
theorem dJ6_bitCount_0f7a4_25 : decode cJ6_bitCount_0f7a4 25 = .ok (.iload_n 0, 1) := by decide +kernel
theorem dJ6_bitCount_0f7a4_26 : decode cJ6_bitCount_0f7a4 26 = .ok (.iconst 4, 1) := by decide +kernel
theorem dJ6_bitCount_0f7a4_27 : decode cJ6_bitCount_0f7a4 27 = .ok (.iushr, 1) := by decide +kernel
theorem dJ6_bitCount_0f7a4_28 : decode cJ6_bitCount_0f7a4 28 = .ok (.iadd, 1) := by decide +kernel
theorem dJ6_bitCount_0f7a4_29 : decode cJ6_bitCount_0f7a4 29 = .ok (.ldc_w 267, 3) := by decide +kernel
theorem dJ6_bitCount_0f7a4_32 : decode cJ6_bitCount_0f7a4 32 = .ok (.iand, 1) := by decide +kernel
theorem dJ6_bitCount_0f7a4_33 : decode cJ6_bitCount_0f7a4 33 = .ok (.istore_n 0, 1) := by decide +kernel
theorem dJ6_bitCount_0f7a4_34 : decode cJ6_bitCount_0f7a4 34 = .ok (.iload_n 0, 1) := by decide +kernel
theorem dJ6_bitCount_0f7a4_35 : decode cJ6_bitCount_0f7a4 35 = .ok (.iload_n 0, 1) := by decide +kernel
theorem dJ6_bitCount_0f7a4_36 : decode cJ6_bitCount_0f7a4 36 = .ok (.bipush 8, 2) := by decide +kernel
theorem dJ6_bitCount_0f7a4_38 : decode cJ6_bitCount_0f7a4 38 = .ok (.iushr, 1) := by decide +kernel
theorem dJ6_bitCount_0f7a4_39 : decode cJ6_bitCount_0f7a4 39 = .ok (.iadd, 1) := by decide +kernel
theorem dJ6_bitCount_0f7a4_40 : decode cJ6_bitCount_0f7a4 40 = .ok (.istore_n 0, 1) := by decide +kernel
theorem dJ6_bitCount_0f7a4_41 : decode cJ6_bitCount_0f7a4 41 = .ok (.iload_n 0, 1) := by decide +kernel
theorem dJ6_bitCount_0f7a4_42 : decode cJ6_bitCount_0f7a4 42 = .ok (.iload_n 0, 1) := by decide +kernel
theorem dJ6_bitCount_0f7a4_43 : decode cJ6_bitCount_0f7a4 43 = .ok (.bipush 16, 2) := by decide +kernel
theorem dJ6_bitCount_0f7a4_45 : decode cJ6_bitCount_0f7a4 45 = .ok (.iushr, 1) := by decide +kernel
theorem dJ6_bitCount_0f7a4_46 : decode cJ6_bitCount_0f7a4 46 = .ok (.iadd, 1) := by decide +kernel
theorem dJ6_bitCount_0f7a4_47 : decode cJ6_bitCount_0f7a4 47 = .ok (.istore_n 0, 1) := by decide +kernel
theorem dJ6_bitCount_0f7a4_48 : decode cJ6_bitCount_0f7a4 48 = .ok (.iload_n 0, 1) := by decide +kernel
theorem dJ6_bitCount_0f7a4_49 : decode cJ6_bitCount_0f7a4 49 = .ok (.bipush 63, 2) := by decide +kernel
theorem dJ6_bitCount_0f7a4_51 : decode cJ6_bitCount_0f7a4 51 = .ok (.iand, 1) := by decide +kernel
theorem dJ6_bitCount_0f7a4_52 : decode cJ6_bitCount_0f7a4 52 = .ok (.ireturn, 1) := by decide +kernel
theorem dJ9_max_7cf53_0 : decode cJ9_max_7cf53 0 = .ok (.iload_n 0, 1) := by decide +kernel
theorem dJ9_max_7cf53_1 : decode cJ9_max_7cf53 1 = .ok (.iload_n 1, 1) := by decide +kernel
theorem dJ9_max_7cf53_2 : decode cJ9_max_7cf53 2 = .ok (.if_icmp .lt 7, 3) := by decide +kernel
theorem dJ9_max_7cf53_5 : decode cJ9_max_7cf53 5 = .ok (.iload_n 0, 1) := by decide +kernel
theorem dJ9_max_7cf53_6 : decode cJ9_max_7cf53 6 = .ok (.goto 4, 3) := by decide +kernel
theorem dJ9_max_7cf53_9 : decode cJ9_max_7cf53 9 = .ok (.iload_n 1, 1) := by decide +kernel
theorem dJ9_max_7cf53_10 : decode cJ9_max_7cf53 10 = .ok (.ireturn, 1) := by decide +kernel
theorem dJ9_min_7cf53_0 : decode cJ9_min_7cf53 0 = .ok (.iload_n 0, 1) := by decide +kernel
theorem dJ9_min_7cf53_1 : decode cJ9_min_7cf53 1 = .ok (.iload_n 1, 1) := by decide +kernel
theorem dJ9_min_7cf53_2 : decode cJ9_min_7cf53 2 = .ok (.if_icmp .gt 7, 3) := by decide +kernel
theorem dJ9_min_7cf53_5 : decode cJ9_min_7cf53 5 = .ok (.iload_n 0, 1) := by decide +kernel
theorem dJ9_min_7cf53_6 : decode cJ9_min_7cf53 6 = .ok (.goto 4, 3) := by decide +kernel
theorem dJ9_min_7cf53_9 : decode cJ9_min_7cf53 9 = .ok (.iload_n 1, 1) := by decide +kernel
theorem dJ9_min_7cf53_10 : decode cJ9_min_7cf53 10 = .ok (.ireturn, 1) := by decide +kernel
theorem dL_cell_0 : decode cL_cell 0 = .ok (.iload_n 1, 1) := by decide +kernel
theorem dL_cell_1 : decode cL_cell 1 = .ok (.aload_n 0, 1) := by decide +kernel
theorem dL_cell_2 : decode cL_cell 2 = .ok (.arraylength, 1) := by decide +kernel
theorem dL_cell_3 : decode cL_cell 3 = .ok (.if_icmp .ge 9, 3) := by decide +kernel
theorem dL_cell_6 : decode cL_cell 6 = .ok (.aload_n 0, 1) := by decide +kernel
theorem dL_cell_7 : decode cL_cell 7 = .ok (.iload_n 1, 1) := by decide +kernel
theorem dL_cell_8 : decode cL_cell 8 = .ok (.iaload, 1) := by decide +kernel
theorem dL_cell_9 : decode cL_cell 9 = .ok (.goto 11, 3) := by decide +kernel
theorem dL_cell_12 : decode cL_cell 12 = .ok (.ldc 7, 2) := by decide +kernel
theorem dL_cell_14 : decode cL_cell 14 = .ok (.iload_n 1, 1) := by decide +kernel
theorem dL_cell_15 : decode cL_cell 15 = .ok (.imul, 1) := by decide +kernel
theorem dL_cell_16 : decode cL_cell 16 = .ok (.sipush 977, 3) := by decide +kernel
theorem dL_cell_19 : decode cL_cell 19 = .ok (.iadd, 1) := by decide +kernel
theorem dL_cell_20 : decode cL_cell 20 = .ok (.ireturn, 1) := by decide +kernel
theorem dL_low_0 : decode cL_low 0 = .ok (.iload_n 0, 1) := by decide +kernel
theorem dL_low_1 : decode cL_low 1 = .ok (.ldc 8, 2) := by decide +kernel
theorem dL_low_3 : decode cL_low 3 = .ok (.iand, 1) := by decide +kernel
theorem dL_low_4 : decode cL_low 4 = .ok (.iload_n 1, 1) := by decide +kernel
theorem dL_low_5 : decode cL_low 5 = .ok (.irem, 1) := by decide +kernel
theorem dL_low_6 : decode cL_low 6 = .ok (.ireturn, 1) := by decide +kernel
theorem dL_change_0 : decode cL_change 0 = .ok (.iload_n 2, 1) := by decide +kernel
theorem dL_change_1 : decode cL_change 1 = .ok (.aload_n 0, 1) := by decide +kernel
theorem dL_change_2 : decode cL_change 2 = .ok (.iconst 1, 1) := by decide +kernel
theorem dL_change_3 : decode cL_change 3 = .ok (.invokevirtual 9, 3) := by decide +kernel
theorem dL_change_6 : decode cL_change 6 = .ok (.iconst 1, 1) := by decide +kernel
theorem dL_change_7 : decode cL_change 7 = .ok (.iadd, 1) := by decide +kernel
theorem dL_change_8 : decode cL_change 8 = .ok (.invokestatic 15, 3) := by decide +kernel
theorem dL_change_11 : decode cL_change 11 = .ok (.istore 4, 2) := by decide +kernel
theorem dL_change_13 : decode cL_change 13 = .ok (.iload_n 2, 1) := by decide +kernel
theorem dL_change_14 : decode cL_change 14 = .ok (.iconst 5, 1) := by decide +kernel
theorem dL_change_15 : decode cL_change 15 = .ok (.ishr, 1) := by decide +kernel
theorem dL_change_16 : decode cL_change 16 = .ok (.aload_n 0, 1) := by decide +kernel
theorem dL_change_17 : decode cL_change 17 = .ok (.iconst 2, 1) := by decide +kernel
theorem dL_change_18 : decode cL_change 18 = .ok (.invokevirtual 9, 3) := by decide +kernel
theorem dL_change_21 : decode cL_change 21 = .ok (.iconst 1, 1) := by decide +kernel
theorem dL_change_22 : decode cL_change 22 = .ok (.iadd, 1) := by decide +kernel
theorem dL_change_23 : decode cL_change 23 = .ok (.invokestatic 15, 3) := by decide +kernel
theorem dL_change_26 : decode cL_change 26 = .ok (.istore 5, 2) := by decide +kernel
theorem dL_change_28 : decode cL_change 28 = .ok (.iload_n 1, 1) := by decide +kernel
theorem dL_change_29 : decode cL_change 29 = .ok (.tableswitch 385 0 19 #[95, 95, 95, 142, 142, 142, 164, 164, 171, 206, 264, 264, 282, 289, 334, 334, 354, 361, 371, 371], 95) := by decide +kernel
theorem dL_change_124 : decode cL_change 124 = .ok (.aload_n 0, 1) := by decide +kernel
theorem dL_change_125 : decode cL_change 125 = .ok (.bipush 50, 2) := by decide +kernel
theorem dL_change_127 : decode cL_change 127 = .ok (.iload_n 2, 1) := by decide +kernel
theorem dL_change_128 : decode cL_change 128 = .ok (.bipush 120, 2) := by decide +kernel
theorem dL_change_130 : decode cL_change 130 = .ok (.invokestatic 15, 3) := by decide +kernel
theorem dL_change_133 : decode cL_change 133 = .ok (.iadd, 1) := by decide +kernel
theorem dL_change_134 : decode cL_change 134 = .ok (.bipush 40, 2) := by decide +kernel
theorem dL_change_136 : decode cL_change 136 = .ok (.iload_n 2, 1) := by decide +kernel
theorem dL_change_137 : decode cL_change 137 = .ok (.bipush 7, 2) := by decide +kernel
theorem dL_change_139 : decode cL_change 139 = .ok (.ishr, 1) := by decide +kernel
theorem dL_change_140 : decode cL_change 140 = .ok (.bipush 90, 2) := by decide +kernel
theorem dL_change_142 : decode cL_change 142 = .ok (.invokestatic 15, 3) := by decide +kernel
theorem dL_change_145 : decode cL_change 145 = .ok (.iadd, 1) := by decide +kernel
theorem dL_change_146 : decode cL_change 146 = .ok (.bipush 30, 2) := by decide +kernel
theorem dL_change_148 : decode cL_change 148 = .ok (.iload_n 3, 1) := by decide +kernel
theorem dL_change_149 : decode cL_change 149 = .ok (.bipush 60, 2) := by decide +kernel
theorem dL_change_151 : decode cL_change 151 = .ok (.invokestatic 15, 3) := by decide +kernel
theorem dL_change_154 : decode cL_change 154 = .ok (.iadd, 1) := by decide +kernel
theorem dL_change_155 : decode cL_change 155 = .ok (.bipush 20, 2) := by decide +kernel
theorem dL_change_157 : decode cL_change 157 = .ok (.iload_n 3, 1) := by decide +kernel
theorem dL_change_158 : decode cL_change 158 = .ok (.bipush 8, 2) := by decide +kernel
theorem dL_change_160 : decode cL_change 160 = .ok (.ishr, 1) := by decide +kernel
theorem dL_change_161 : decode cL_change 161 = .ok (.bipush 12, 2) := by decide +kernel
theorem dL_change_163 : decode cL_change 163 = .ok (.invokestatic 15, 3) := by decide +kernel
theorem dL_change_166 : decode cL_change 166 = .ok (.iadd, 1) := by decide +kernel
theorem dL_change_167 : decode cL_change 167 = .ok (.invokevirtual 21, 3) := by decide +kernel
theorem dL_change_170 : decode cL_change 170 = .ok (.ireturn, 1) := by decide +kernel
theorem dL_change_171 : decode cL_change 171 = .ok (.aload_n 0, 1) := by decide +kernel
theorem dL_change_172 : decode cL_change 172 = .ok (.iload 4, 2) := by decide +kernel
theorem dL_change_174 : decode cL_change 174 = .ok (.iload_n 3, 1) := by decide +kernel
theorem dL_change_175 : decode cL_change 175 = .ok (.iconst 3, 1) := by decide +kernel
theorem dL_change_176 : decode cL_change 176 = .ok (.invokestatic 15, 3) := by decide +kernel
theorem dL_change_179 : decode cL_change 179 = .ok (.iconst 1, 1) := by decide +kernel
theorem dL_change_180 : decode cL_change 180 = .ok (.iload_n 3, 1) := by decide +kernel
theorem dL_change_181 : decode cL_change 181 = .ok (.iconst 2, 1) := by decide +kernel
theorem dL_change_182 : decode cL_change 182 = .ok (.ishr, 1) := by decide +kernel
theorem dL_change_183 : decode cL_change 183 = .ok (.bipush 120, 2) := by decide +kernel
theorem dL_change_185 : decode cL_change 185 = .ok (.invokestatic 15, 3) := by decide +kernel
theorem dL_change_188 : decode cL_change 188 = .ok (.iadd, 1) := by decide +kernel
theorem dL_change_189 : decode cL_change 189 = .ok (.invokevirtual 25, 3) := by decide +kernel
theorem dL_change_192 : decode cL_change 192 = .ok (.ireturn, 1) := by decide +kernel
theorem dL_change_193 : decode cL_change 193 = .ok (.aload_n 0, 1) := by decide +kernel
theorem dL_change_194 : decode cL_change 194 = .ok (.iload 4, 2) := by decide +kernel
theorem dL_change_196 : decode cL_change 196 = .ok (.invokevirtual 29, 3) := by decide +kernel
theorem dL_change_199 : decode cL_change 199 = .ok (.ireturn, 1) := by decide +kernel
theorem dL_change_200 : decode cL_change 200 = .ok (.aload_n 0, 1) := by decide +kernel
theorem dL_change_201 : decode cL_change 201 = .ok (.bipush 40, 2) := by decide +kernel
theorem dL_change_203 : decode cL_change 203 = .ok (.iload_n 2, 1) := by decide +kernel
theorem dL_change_204 : decode cL_change 204 = .ok (.bipush 60, 2) := by decide +kernel
theorem dL_change_206 : decode cL_change 206 = .ok (.invokestatic 15, 3) := by decide +kernel
theorem dL_change_209 : decode cL_change 209 = .ok (.iadd, 1) := by decide +kernel
theorem dL_change_210 : decode cL_change 210 = .ok (.bipush 40, 2) := by decide +kernel
theorem dL_change_212 : decode cL_change 212 = .ok (.iload_n 2, 1) := by decide +kernel
theorem dL_change_213 : decode cL_change 213 = .ok (.bipush 8, 2) := by decide +kernel
theorem dL_change_215 : decode cL_change 215 = .ok (.ishr, 1) := by decide +kernel
theorem dL_change_216 : decode cL_change 216 = .ok (.bipush 60, 2) := by decide +kernel
theorem dL_change_218 : decode cL_change 218 = .ok (.invokestatic 15, 3) := by decide +kernel
theorem dL_change_221 : decode cL_change 221 = .ok (.iadd, 1) := by decide +kernel
theorem dL_change_222 : decode cL_change 222 = .ok (.bipush 30, 2) := by decide +kernel
theorem dL_change_224 : decode cL_change 224 = .ok (.iload_n 3, 1) := by decide +kernel
theorem dL_change_225 : decode cL_change 225 = .ok (.bipush 40, 2) := by decide +kernel
theorem dL_change_227 : decode cL_change 227 = .ok (.invokestatic 15, 3) := by decide +kernel
theorem dL_change_230 : decode cL_change 230 = .ok (.iadd, 1) := by decide +kernel
theorem dL_change_231 : decode cL_change 231 = .ok (.invokevirtual 32, 3) := by decide +kernel
theorem dL_change_234 : decode cL_change 234 = .ok (.ireturn, 1) := by decide +kernel
theorem dL_change_235 : decode cL_change 235 = .ok (.iload 4, 2) := by decide +kernel
theorem dL_change_237 : decode cL_change 237 = .ok (.aload_n 0, 1) := by decide +kernel
theorem dL_change_238 : decode cL_change 238 = .ok (.iconst 1, 1) := by decide +kernel
theorem dL_change_239 : decode cL_change 239 = .ok (.invokevirtual 9, 3) := by decide +kernel
theorem dL_change_242 : decode cL_change 242 = .ok (.if_icmp .ge 43, 3) := by decide +kernel
theorem dL_change_245 : decode cL_change 245 = .ok (.aload_n 0, 1) := by decide +kernel
theorem dL_change_246 : decode cL_change 246 = .ok (.iconst 1, 1) := by decide +kernel
theorem dL_change_247 : decode cL_change 247 = .ok (.aload_n 0, 1) := by decide +kernel
theorem dL_change_248 : decode cL_change 248 = .ok (.iload 4, 2) := by decide +kernel
theorem dL_change_250 : decode cL_change 250 = .ok (.iconst 1, 1) := by decide +kernel
theorem dL_change_251 : decode cL_change 251 = .ok (.invokevirtual 35, 3) := by decide +kernel
theorem dL_change_254 : decode cL_change 254 = .ok (.iadd, 1) := by decide +kernel
theorem dL_change_255 : decode cL_change 255 = .ok (.aload_n 0, 1) := by decide +kernel
theorem dL_change_256 : decode cL_change 256 = .ok (.iload 4, 2) := by decide +kernel
theorem dL_change_258 : decode cL_change 258 = .ok (.iconst 1, 1) := by decide +kernel
theorem dL_change_259 : decode cL_change 259 = .ok (.invokevirtual 35, 3) := by decide +kernel
theorem dL_change_262 : decode cL_change 262 = .ok (.iconst 4, 1) := by decide +kernel
theorem dL_change_263 : decode cL_change 263 = .ok (.irem, 1) := by decide +kernel
theorem dL_change_264 : decode cL_change 264 = .ok (.isub, 1) := by decide +kernel
theorem dL_change_265 : decode cL_change 265 = .ok (.aload_n 0, 1) := by decide +kernel
theorem dL_change_266 : decode cL_change 266 = .ok (.iload 4, 2) := by decide +kernel
theorem dL_change_268 : decode cL_change 268 = .ok (.iconst 0, 1) := by decide +kernel
theorem dL_change_269 : decode cL_change 269 = .ok (.invokevirtual 35, 3) := by decide +kernel
theorem dL_change_272 : decode cL_change 272 = .ok (.aload_n 0, 1) := by decide +kernel
theorem dL_change_273 : decode cL_change 273 = .ok (.iload 4, 2) := by decide +kernel
theorem dL_change_275 : decode cL_change 275 = .ok (.iconst 2, 1) := by decide +kernel
theorem dL_change_276 : decode cL_change 276 = .ok (.invokevirtual 35, 3) := by decide +kernel
theorem dL_change_279 : decode cL_change 279 = .ok (.invokevirtual 32, 3) := by decide +kernel
theorem dL_change_282 : decode cL_change 282 = .ok (.goto 10, 3) := by decide +kernel
theorem dL_change_285 : decode cL_change 285 = .ok (.aload_n 0, 1) := by decide +kernel
theorem dL_change_286 : decode cL_change 286 = .ok (.iconst 0, 1) := by decide +kernel
theorem dL_change_287 : decode cL_change 287 = .ok (.iconst 1, 1) := by decide +kernel
theorem dL_change_288 : decode cL_change 288 = .ok (.iconst 1, 1) := by decide +kernel
theorem dL_change_289 : decode cL_change 289 = .ok (.invokevirtual 32, 3) := by decide +kernel
theorem dL_change_292 : decode cL_change 292 = .ok (.ireturn, 1) := by decide +kernel
theorem dL_change_293 : decode cL_change 293 = .ok (.aload_n 0, 1) := by decide +kernel
theorem dL_change_294 : decode cL_change 294 = .ok (.iload 5, 2) := by decide +kernel
theorem dL_change_296 : decode cL_change 296 = .ok (.iload_n 3, 1) := by decide +kernel
theorem dL_change_297 : decode cL_change 297 = .ok (.aload_n 0, 1) := by decide +kernel
theorem dL_change_298 : decode cL_change 298 = .ok (.iconst 1, 1) := by decide +kernel
theorem dL_change_299 : decode cL_change 299 = .ok (.invokevirtual 9, 3) := by decide +kernel
theorem dL_change_302 : decode cL_change 302 = .ok (.iconst 1, 1) := by decide +kernel
theorem dL_change_303 : decode cL_change 303 = .ok (.iadd, 1) := by decide +kernel
theorem dL_change_304 : decode cL_change 304 = .ok (.invokestatic 15, 3) := by decide +kernel
theorem dL_change_307 : decode cL_change 307 = .ok (.invokevirtual 38, 3) := by decide +kernel
theorem dL_change_310 : decode cL_change 310 = .ok (.ireturn, 1) := by decide +kernel
theorem dL_change_311 : decode cL_change 311 = .ok (.aload_n 0, 1) := by decide +kernel
theorem dL_change_312 : decode cL_change 312 = .ok (.iload 5, 2) := by decide +kernel
theorem dL_change_314 : decode cL_change 314 = .ok (.invokevirtual 41, 3) := by decide +kernel
theorem dL_change_317 : decode cL_change 317 = .ok (.ireturn, 1) := by decide +kernel
theorem dL_change_318 : decode cL_change 318 = .ok (.aload_n 0, 1) := by decide +kernel
theorem dL_change_319 : decode cL_change 319 = .ok (.iload_n 2, 1) := by decide +kernel
theorem dL_change_320 : decode cL_change 320 = .ok (.iconst 4, 1) := by decide +kernel
theorem dL_change_321 : decode cL_change 321 = .ok (.invokestatic 15, 3) := by decide +kernel
theorem dL_change_324 : decode cL_change 324 = .ok (.bipush 100, 2) := by decide +kernel
theorem dL_change_326 : decode cL_change 326 = .ok (.iload_n 2, 1) := by decide +kernel
theorem dL_change_327 : decode cL_change 327 = .ok (.iconst 3, 1) := by decide +kernel
theorem dL_change_328 : decode cL_change 328 = .ok (.ishr, 1) := by decide +kernel
theorem dL_change_329 : decode cL_change 329 = .ok (.sipush 20000, 3) := by decide +kernel
theorem dL_change_332 : decode cL_change 332 = .ok (.invokestatic 15, 3) := by decide +kernel
theorem dL_change_335 : decode cL_change 335 = .ok (.iadd, 1) := by decide +kernel
theorem dL_change_336 : decode cL_change 336 = .ok (.bipush 100, 2) := by decide +kernel
theorem dL_change_338 : decode cL_change 338 = .ok (.iload_n 3, 1) := by decide +kernel
theorem dL_change_339 : decode cL_change 339 = .ok (.sipush 20000, 3) := by decide +kernel
theorem dL_change_342 : decode cL_change 342 = .ok (.invokestatic 15, 3) := by decide +kernel
theorem dL_change_345 : decode cL_change 345 = .ok (.iadd, 1) := by decide +kernel
theorem dL_change_346 : decode cL_change 346 = .ok (.bipush 50, 2) := by decide +kernel
theorem dL_change_348 : decode cL_change 348 = .ok (.iload_n 3, 1) := by decide +kernel
theorem dL_change_349 : decode cL_change 349 = .ok (.bipush 8, 2) := by decide +kernel
theorem dL_change_351 : decode cL_change 351 = .ok (.ishr, 1) := by decide +kernel
theorem dL_change_352 : decode cL_change 352 = .ok (.sipush 30000, 3) := by decide +kernel
theorem dL_change_355 : decode cL_change 355 = .ok (.invokestatic 15, 3) := by decide +kernel
theorem dL_change_358 : decode cL_change 358 = .ok (.iadd, 1) := by decide +kernel
theorem dL_change_359 : decode cL_change 359 = .ok (.invokevirtual 44, 3) := by decide +kernel
theorem dL_change_362 : decode cL_change 362 = .ok (.ireturn, 1) := by decide +kernel
theorem dL_change_363 : decode cL_change 363 = .ok (.aload_n 0, 1) := by decide +kernel
theorem dL_change_364 : decode cL_change 364 = .ok (.iload 4, 2) := by decide +kernel
theorem dL_change_366 : decode cL_change 366 = .ok (.iload_n 3, 1) := by decide +kernel
theorem dL_change_367 : decode cL_change 367 = .ok (.iconst 3, 1) := by decide +kernel
theorem dL_change_368 : decode cL_change 368 = .ok (.invokestatic 15, 3) := by decide +kernel
theorem dL_change_371 : decode cL_change 371 = .ok (.iload_n 3, 1) := by decide +kernel
theorem dL_change_372 : decode cL_change 372 = .ok (.iconst 4, 1) := by decide +kernel
theorem dL_change_373 : decode cL_change 373 = .ok (.ishr, 1) := by decide +kernel
theorem dL_change_374 : decode cL_change 374 = .ok (.bipush 6, 2) := by decide +kernel
theorem dL_change_376 : decode cL_change 376 = .ok (.invokestatic 15, 3) := by decide +kernel
theorem dL_change_379 : decode cL_change 379 = .ok (.invokevirtual 47, 3) := by decide +kernel
theorem dL_change_382 : decode cL_change 382 = .ok (.ireturn, 1) := by decide +kernel
theorem dL_change_383 : decode cL_change 383 = .ok (.aload_n 0, 1) := by decide +kernel
theorem dL_change_384 : decode cL_change 384 = .ok (.iload 4, 2) := by decide +kernel
theorem dL_change_386 : decode cL_change 386 = .ok (.invokevirtual 50, 3) := by decide +kernel
theorem dL_change_389 : decode cL_change 389 = .ok (.ireturn, 1) := by decide +kernel
theorem dL_change_390 : decode cL_change 390 = .ok (.aload_n 0, 1) := by decide +kernel
theorem dL_change_391 : decode cL_change 391 = .ok (.iload_n 2, 1) := by decide +kernel
theorem dL_change_392 : decode cL_change 392 = .ok (.iconst 4, 1) := by decide +kernel
theorem dL_change_393 : decode cL_change 393 = .ok (.invokestatic 15, 3) := by decide +kernel
theorem dL_change_396 : decode cL_change 396 = .ok (.invokevirtual 53, 3) := by decide +kernel
theorem dL_change_399 : decode cL_change 399 = .ok (.ireturn, 1) := by decide +kernel
theorem dL_change_400 : decode cL_change 400 = .ok (.aload_n 0, 1) := by decide +kernel
theorem dL_change_401 : decode cL_change 401 = .ok (.iload_n 2, 1) := by decide +kernel
theorem dL_change_402 : decode cL_change 402 = .ok (.bipush 82, 2) := by decide +kernel
theorem dL_change_404 : decode cL_change 404 = .ok (.invokestatic 15, 3) := by decide +kernel
theorem dL_change_407 : decode cL_change 407 = .ok (.bipush 41, 2) := by decide +kernel
theorem dL_change_409 : decode cL_change 409 = .ok (.isub, 1) := by decide +kernel
theorem dL_change_410 : decode cL_change 410 = .ok (.invokevirtual 56, 3) := by decide +kernel
theorem dL_change_413 : decode cL_change 413 = .ok (.ireturn, 1) := by decide +kernel
theorem dL_change_414 : decode cL_change 414 = .ok (.aload_n 0, 1) := by decide +kernel
theorem dL_change_415 : decode cL_change 415 = .ok (.iload_n 2, 1) := by decide +kernel
theorem dL_change_416 : decode cL_change 416 = .ok (.iconst 5, 1) := by decide +kernel
theorem dL_change_417 : decode cL_change 417 = .ok (.invokestatic 15, 3) := by decide +kernel
theorem dL_change_420 : decode cL_change 420 = .ok (.iload_n 3, 1) := by decide +kernel
theorem dL_change_421 : decode cL_change 421 = .ok (.bipush 36, 2) := by decide +kernel
theorem dL_change_423 : decode cL_change 423 = .ok (.invokestatic 15, 3) := by decide +kernel
theorem dL_change_426 : decode cL_change 426 = .ok (.bipush 6, 2) := by decide +kernel
theorem dL_change_428 : decode cL_change 428 = .ok (.isub, 1) := by decide +kernel
theorem dL_change_429 : decode cL_change 429 = .ok (.invokevirtual 59, 3) := by decide +kernel
theorem dL_change_432 : decode cL_change 432 = .ok (.ireturn, 1) := by decide +kernel
theorem dL_isBlock_0 : decode cL_isBlock 0 = .ok (.aload_n 0, 1) := by decide +kernel
theorem dL_isBlock_1 : decode cL_isBlock 1 = .ok (.iload_n 1, 1) := by decide +kernel
theorem dL_isBlock_2 : decode cL_isBlock 2 = .ok (.iconst 5, 1) := by decide +kernel
theorem dL_isBlock_3 : decode cL_isBlock 3 = .ok (.invokevirtual 35, 3) := by decide +kernel
theorem dL_isBlock_6 : decode cL_isBlock 6 = .ok (.istore_n 2, 1) := by decide +kernel
theorem dL_isBlock_7 : decode cL_isBlock 7 = .ok (.aload_n 0, 1) := by decide +kernel
theorem dL_isBlock_8 : decode cL_isBlock 8 = .ok (.iload_n 1, 1) := by decide +kernel
theorem dL_isBlock_9 : decode cL_isBlock 9 = .ok (.bipush 8, 2) := by decide +kernel
theorem dL_isBlock_11 : decode cL_isBlock 11 = .ok (.invokevirtual 35, 3) := by decide +kernel
theorem dL_isBlock_14 : decode cL_isBlock 14 = .ok (.istore_n 3, 1) := by decide +kernel
theorem dL_isBlock_15 : decode cL_isBlock 15 = .ok (.aload_n 0, 1) := by decide +kernel
theorem dL_isBlock_16 : decode cL_isBlock 16 = .ok (.iload_n 1, 1) := by decide +kernel
theorem dL_isBlock_17 : decode cL_isBlock 17 = .ok (.bipush 9, 2) := by decide +kernel
theorem dL_isBlock_19 : decode cL_isBlock 19 = .ok (.invokevirtual 35, 3) := by decide +kernel
theorem dL_isBlock_22 : decode cL_isBlock 22 = .ok (.istore 4, 2) := by decide +kernel
theorem dL_isBlock_24 : decode cL_isBlock 24 = .ok (.aload_n 0, 1) := by decide +kernel
theorem dL_isBlock_25 : decode cL_isBlock 25 = .ok (.iload_n 1, 1) := by decide +kernel
theorem dL_isBlock_26 : decode cL_isBlock 26 = .ok (.iconst 4, 1) := by decide +kernel
theorem dL_isBlock_27 : decode cL_isBlock 27 = .ok (.invokevirtual 35, 3) := by decide +kernel
theorem dL_isBlock_30 : decode cL_isBlock 30 = .ok (.aload_n 0, 1) := by decide +kernel
theorem dL_isBlock_31 : decode cL_isBlock 31 = .ok (.iload_n 1, 1) := by decide +kernel
theorem dL_isBlock_32 : decode cL_isBlock 32 = .ok (.iconst 0, 1) := by decide +kernel
theorem dL_isBlock_33 : decode cL_isBlock 33 = .ok (.invokevirtual 35, 3) := by decide +kernel
theorem dL_isBlock_36 : decode cL_isBlock 36 = .ok (.aload_n 0, 1) := by decide +kernel
theorem dL_isBlock_37 : decode cL_isBlock 37 = .ok (.iload_n 1, 1) := by decide +kernel
theorem dL_isBlock_38 : decode cL_isBlock 38 = .ok (.iconst 1, 1) := by decide +kernel
theorem dL_isBlock_39 : decode cL_isBlock 39 = .ok (.invokevirtual 35, 3) := by decide +kernel
theorem dL_isBlock_42 : decode cL_isBlock 42 = .ok (.imul, 1) := by decide +kernel
theorem dL_isBlock_43 : decode cL_isBlock 43 = .ok (.aload_n 0, 1) := by decide +kernel
theorem dL_isBlock_44 : decode cL_isBlock 44 = .ok (.iload_n 1, 1) := by decide +kernel
theorem dL_isBlock_45 : decode cL_isBlock 45 = .ok (.iconst 2, 1) := by decide +kernel
theorem dL_isBlock_46 : decode cL_isBlock 46 = .ok (.invokevirtual 35, 3) := by decide +kernel
theorem dL_isBlock_49 : decode cL_isBlock 49 = .ok (.imul, 1) := by decide +kernel
theorem dL_isBlock_50 : decode cL_isBlock 50 = .ok (.aload_n 0, 1) := by decide +kernel
theorem dL_isBlock_51 : decode cL_isBlock 51 = .ok (.iload_n 1, 1) := by decide +kernel
theorem dL_isBlock_52 : decode cL_isBlock 52 = .ok (.iconst 3, 1) := by decide +kernel
theorem dL_isBlock_53 : decode cL_isBlock 53 = .ok (.invokevirtual 35, 3) := by decide +kernel
theorem dL_isBlock_56 : decode cL_isBlock 56 = .ok (.imul, 1) := by decide +kernel
theorem dL_isBlock_57 : decode cL_isBlock 57 = .ok (.sipush 10000, 3) := by decide +kernel
theorem dL_isBlock_60 : decode cL_isBlock 60 = .ok (.idiv, 1) := by decide +kernel
theorem dL_isBlock_61 : decode cL_isBlock 61 = .ok (.if_icmp .ne 37, 3) := by decide +kernel
theorem dL_isBlock_64 : decode cL_isBlock 64 = .ok (.iload_n 2, 1) := by decide +kernel
theorem dL_isBlock_65 : decode cL_isBlock 65 = .ok (.ifCond .lt 33, 3) := by decide +kernel
theorem dL_isBlock_68 : decode cL_isBlock 68 = .ok (.iload_n 2, 1) := by decide +kernel
theorem dL_isBlock_69 : decode cL_isBlock 69 = .ok (.iconst 4, 1) := by decide +kernel
theorem dL_isBlock_70 : decode cL_isBlock 70 = .ok (.if_icmp .gt 28, 3) := by decide +kernel
theorem dL_isBlock_73 : decode cL_isBlock 73 = .ok (.aload_n 0, 1) := by decide +kernel
theorem dL_isBlock_74 : decode cL_isBlock 74 = .ok (.iload_n 1, 1) := by decide +kernel
theorem dL_isBlock_75 : decode cL_isBlock 75 = .ok (.bipush 6, 2) := by decide +kernel
theorem dL_isBlock_77 : decode cL_isBlock 77 = .ok (.invokevirtual 35, 3) := by decide +kernel
theorem dL_isBlock_80 : decode cL_isBlock 80 = .ok (.ifCond .lt 18, 3) := by decide +kernel
theorem dL_isBlock_83 : decode cL_isBlock 83 = .ok (.aload_n 0, 1) := by decide +kernel
theorem dL_isBlock_84 : decode cL_isBlock 84 = .ok (.iload_n 1, 1) := by decide +kernel
theorem dL_isBlock_85 : decode cL_isBlock 85 = .ok (.bipush 6, 2) := by decide +kernel
theorem dL_isBlock_87 : decode cL_isBlock 87 = .ok (.invokevirtual 35, 3) := by decide +kernel
theorem dL_isBlock_90 : decode cL_isBlock 90 = .ok (.iconst 3, 1) := by decide +kernel
theorem dL_isBlock_91 : decode cL_isBlock 91 = .ok (.if_icmp .gt 7, 3) := by decide +kernel
theorem dL_isBlock_94 : decode cL_isBlock 94 = .ok (.iconst 1, 1) := by decide +kernel
theorem dL_isBlock_95 : decode cL_isBlock 95 = .ok (.goto 4, 3) := by decide +kernel
theorem dL_isBlock_98 : decode cL_isBlock 98 = .ok (.iconst 0, 1) := by decide +kernel
theorem dL_isBlock_99 : decode cL_isBlock 99 = .ok (.istore 5, 2) := by decide +kernel
theorem dL_isBlock_101 : decode cL_isBlock 101 = .ok (.iload 5, 2) := by decide +kernel
theorem dL_isBlock_103 : decode cL_isBlock 103 = .ok (.ifCond .eq 78, 3) := by decide +kernel
theorem dL_isBlock_106 : decode cL_isBlock 106 = .ok (.iload 4, 2) := by decide +kernel
theorem dL_isBlock_108 : decode cL_isBlock 108 = .ok (.bipush (-6), 2) := by decide +kernel
theorem dL_isBlock_110 : decode cL_isBlock 110 = .ok (.if_icmp .ne 7, 3) := by decide +kernel
theorem dL_isBlock_113 : decode cL_isBlock 113 = .ok (.iconst 1, 1) := by decide +kernel
theorem dL_isBlock_114 : decode cL_isBlock 114 = .ok (.goto 4, 3) := by decide +kernel
theorem dL_isBlock_117 : decode cL_isBlock 117 = .ok (.iconst 0, 1) := by decide +kernel
theorem dL_isBlock_118 : decode cL_isBlock 118 = .ok (.iload_n 2, 1) := by decide +kernel
theorem dL_isBlock_119 : decode cL_isBlock 119 = .ok (.iconst 2, 1) := by decide +kernel
theorem dL_isBlock_120 : decode cL_isBlock 120 = .ok (.if_icmp .eq 7, 3) := by decide +kernel
theorem dL_isBlock_123 : decode cL_isBlock 123 = .ok (.iconst 1, 1) := by decide +kernel
theorem dL_isBlock_124 : decode cL_isBlock 124 = .ok (.goto 4, 3) := by decide +kernel
theorem dL_isBlock_127 : decode cL_isBlock 127 = .ok (.iconst 0, 1) := by decide +kernel
theorem dL_isBlock_128 : decode cL_isBlock 128 = .ok (.if_icmp .ne 53, 3) := by decide +kernel
theorem dL_isBlock_131 : decode cL_isBlock 131 = .ok (.iload 4, 2) := by decide +kernel
theorem dL_isBlock_133 : decode cL_isBlock 133 = .ok (.bipush (-6), 2) := by decide +kernel
theorem dL_isBlock_135 : decode cL_isBlock 135 = .ok (.if_icmp .eq 20, 3) := by decide +kernel
theorem dL_isBlock_138 : decode cL_isBlock 138 = .ok (.aload_n 0, 1) := by decide +kernel
theorem dL_isBlock_139 : decode cL_isBlock 139 = .ok (.iload 4, 2) := by decide +kernel
theorem dL_isBlock_141 : decode cL_isBlock 141 = .ok (.iconst 5, 1) := by decide +kernel
theorem dL_isBlock_142 : decode cL_isBlock 142 = .ok (.idiv, 1) := by decide +kernel
theorem dL_isBlock_143 : decode cL_isBlock 143 = .ok (.iconst 3, 1) := by decide +kernel
theorem dL_isBlock_144 : decode cL_isBlock 144 = .ok (.invokevirtual 62, 3) := by decide +kernel
theorem dL_isBlock_147 : decode cL_isBlock 147 = .ok (.iload_n 1, 1) := by decide +kernel
theorem dL_isBlock_148 : decode cL_isBlock 148 = .ok (.ishr, 1) := by decide +kernel
theorem dL_isBlock_149 : decode cL_isBlock 149 = .ok (.iconst 1, 1) := by decide +kernel
theorem dL_isBlock_150 : decode cL_isBlock 150 = .ok (.iand, 1) := by decide +kernel
theorem dL_isBlock_151 : decode cL_isBlock 151 = .ok (.iconst 1, 1) := by decide +kernel
theorem dL_isBlock_152 : decode cL_isBlock 152 = .ok (.if_icmp .ne 29, 3) := by decide +kernel
theorem dL_isBlock_155 : decode cL_isBlock 155 = .ok (.aload_n 0, 1) := by decide +kernel
theorem dL_isBlock_156 : decode cL_isBlock 156 = .ok (.iconst 4, 1) := by decide +kernel
theorem dL_isBlock_157 : decode cL_isBlock 157 = .ok (.invokevirtual 9, 3) := by decide +kernel
theorem dL_isBlock_160 : decode cL_isBlock 160 = .ok (.iload_n 1, 1) := by decide +kernel
theorem dL_isBlock_161 : decode cL_isBlock 161 = .ok (.ishr, 1) := by decide +kernel
theorem dL_isBlock_162 : decode cL_isBlock 162 = .ok (.iconst 1, 1) := by decide +kernel
theorem dL_isBlock_163 : decode cL_isBlock 163 = .ok (.iand, 1) := by decide +kernel
theorem dL_isBlock_164 : decode cL_isBlock 164 = .ok (.iload_n 2, 1) := by decide +kernel
theorem dL_isBlock_165 : decode cL_isBlock 165 = .ok (.iconst 1, 1) := by decide +kernel
theorem dL_isBlock_166 : decode cL_isBlock 166 = .ok (.if_icmp .ne 7, 3) := by decide +kernel
theorem dL_isBlock_169 : decode cL_isBlock 169 = .ok (.iconst 1, 1) := by decide +kernel
theorem dL_isBlock_170 : decode cL_isBlock 170 = .ok (.goto 4, 3) := by decide +kernel
theorem dL_isBlock_173 : decode cL_isBlock 173 = .ok (.iconst 0, 1) := by decide +kernel
theorem dL_isBlock_174 : decode cL_isBlock 174 = .ok (.if_icmp .ne 7, 3) := by decide +kernel
theorem dL_isBlock_177 : decode cL_isBlock 177 = .ok (.iconst 1, 1) := by decide +kernel
theorem dL_isBlock_178 : decode cL_isBlock 178 = .ok (.goto 4, 3) := by decide +kernel
theorem dL_isBlock_181 : decode cL_isBlock 181 = .ok (.iconst 0, 1) := by decide +kernel
theorem dL_isBlock_182 : decode cL_isBlock 182 = .ok (.istore 5, 2) := by decide +kernel
theorem dL_isBlock_184 : decode cL_isBlock 184 = .ok (.iload 5, 2) := by decide +kernel
theorem dL_isBlock_186 : decode cL_isBlock 186 = .ok (.ifCond .eq 43, 3) := by decide +kernel
theorem dL_isBlock_189 : decode cL_isBlock 189 = .ok (.iload_n 3, 1) := by decide +kernel
theorem dL_isBlock_190 : decode cL_isBlock 190 = .ok (.bipush (-6), 2) := by decide +kernel
theorem dL_isBlock_192 : decode cL_isBlock 192 = .ok (.if_icmp .eq 22, 3) := by decide +kernel
theorem dL_isBlock_195 : decode cL_isBlock 195 = .ok (.aload_n 0, 1) := by decide +kernel
theorem dL_isBlock_196 : decode cL_isBlock 196 = .ok (.iload_n 3, 1) := by decide +kernel
theorem dL_isBlock_197 : decode cL_isBlock 197 = .ok (.iconst 4, 1) := by decide +kernel
theorem dL_isBlock_198 : decode cL_isBlock 198 = .ok (.invokevirtual 65, 3) := by decide +kernel
theorem dL_isBlock_201 : decode cL_isBlock 201 = .ok (.iload_n 1, 1) := by decide +kernel
theorem dL_isBlock_202 : decode cL_isBlock 202 = .ok (.if_icmp .ne 27, 3) := by decide +kernel
theorem dL_isBlock_205 : decode cL_isBlock 205 = .ok (.aload_n 0, 1) := by decide +kernel
theorem dL_isBlock_206 : decode cL_isBlock 206 = .ok (.iload_n 3, 1) := by decide +kernel
theorem dL_isBlock_207 : decode cL_isBlock 207 = .ok (.iconst 3, 1) := by decide +kernel
theorem dL_isBlock_208 : decode cL_isBlock 208 = .ok (.invokevirtual 65, 3) := by decide +kernel
theorem dL_isBlock_211 : decode cL_isBlock 211 = .ok (.ifCond .le 18, 3) := by decide +kernel
theorem dL_isBlock_214 : decode cL_isBlock 214 = .ok (.aload_n 0, 1) := by decide +kernel
theorem dL_isBlock_215 : decode cL_isBlock 215 = .ok (.iload_n 1, 1) := by decide +kernel
theorem dL_isBlock_216 : decode cL_isBlock 216 = .ok (.bipush 10, 2) := by decide +kernel
theorem dL_isBlock_218 : decode cL_isBlock 218 = .ok (.invokevirtual 35, 3) := by decide +kernel
theorem dL_isBlock_221 : decode cL_isBlock 221 = .ok (.iload_n 1, 1) := by decide +kernel
theorem dL_isBlock_222 : decode cL_isBlock 222 = .ok (.if_icmp .ge 7, 3) := by decide +kernel
theorem dL_isBlock_225 : decode cL_isBlock 225 = .ok (.iconst 1, 1) := by decide +kernel
theorem dL_isBlock_226 : decode cL_isBlock 226 = .ok (.goto 4, 3) := by decide +kernel
theorem dL_isBlock_229 : decode cL_isBlock 229 = .ok (.iconst 0, 1) := by decide +kernel
theorem dL_isBlock_230 : decode cL_isBlock 230 = .ok (.istore 5, 2) := by decide +kernel
theorem dL_isBlock_232 : decode cL_isBlock 232 = .ok (.iload 5, 2) := by decide +kernel
theorem dL_isBlock_234 : decode cL_isBlock 234 = .ok (.ifCond .eq 47, 3) := by decide +kernel
theorem dL_isBlock_237 : decode cL_isBlock 237 = .ok (.aload_n 0, 1) := by decide +kernel
theorem dL_isBlock_238 : decode cL_isBlock 238 = .ok (.invokevirtual 68, 3) := by decide +kernel
theorem dL_isBlock_241 : decode cL_isBlock 241 = .ok (.iload_n 1, 1) := by decide +kernel
theorem dL_isBlock_242 : decode cL_isBlock 242 = .ok (.ishr, 1) := by decide +kernel
theorem dL_isBlock_243 : decode cL_isBlock 243 = .ok (.iconst 1, 1) := by decide +kernel
theorem dL_isBlock_244 : decode cL_isBlock 244 = .ok (.iand, 1) := by decide +kernel
theorem dL_isBlock_245 : decode cL_isBlock 245 = .ok (.iload_n 2, 1) := by decide +kernel
theorem dL_isBlock_246 : decode cL_isBlock 246 = .ok (.ifCond .ne 27, 3) := by decide +kernel
theorem dL_isBlock_249 : decode cL_isBlock 249 = .ok (.aload_n 0, 1) := by decide +kernel
theorem dL_isBlock_250 : decode cL_isBlock 250 = .ok (.iload_n 1, 1) := by decide +kernel
theorem dL_isBlock_251 : decode cL_isBlock 251 = .ok (.bipush 6, 2) := by decide +kernel
theorem dL_isBlock_253 : decode cL_isBlock 253 = .ok (.invokevirtual 35, 3) := by decide +kernel
theorem dL_isBlock_256 : decode cL_isBlock 256 = .ok (.ifCond .le 17, 3) := by decide +kernel
theorem dL_isBlock_259 : decode cL_isBlock 259 = .ok (.aload_n 0, 1) := by decide +kernel
theorem dL_isBlock_260 : decode cL_isBlock 260 = .ok (.iload_n 1, 1) := by decide +kernel
theorem dL_isBlock_261 : decode cL_isBlock 261 = .ok (.bipush 7, 2) := by decide +kernel
theorem dL_isBlock_263 : decode cL_isBlock 263 = .ok (.invokevirtual 35, 3) := by decide +kernel
theorem dL_isBlock_266 : decode cL_isBlock 266 = .ok (.ifCond .ne 7, 3) := by decide +kernel
theorem dL_isBlock_269 : decode cL_isBlock 269 = .ok (.iconst 1, 1) := by decide +kernel
theorem dL_isBlock_270 : decode cL_isBlock 270 = .ok (.goto 4, 3) := by decide +kernel
theorem dL_isBlock_273 : decode cL_isBlock 273 = .ok (.iconst 0, 1) := by decide +kernel
theorem dL_isBlock_274 : decode cL_isBlock 274 = .ok (.if_icmp .ne 7, 3) := by decide +kernel
theorem dL_isBlock_277 : decode cL_isBlock 277 = .ok (.iconst 1, 1) := by decide +kernel
theorem dL_isBlock_278 : decode cL_isBlock 278 = .ok (.goto 4, 3) := by decide +kernel
theorem dL_isBlock_281 : decode cL_isBlock 281 = .ok (.iconst 0, 1) := by decide +kernel
theorem dL_isBlock_282 : decode cL_isBlock 282 = .ok (.ireturn, 1) := by decide +kernel
theorem dL_isOrder_0 : decode cL_isOrder 0 = .ok (.aload_n 0, 1) := by decide +kernel
theorem dL_isOrder_1 : decode cL_isOrder 1 = .ok (.iload_n 1, 1) := by decide +kernel
theorem dL_isOrder_2 : decode cL_isOrder 2 = .ok (.iconst 3, 1) := by decide +kernel
theorem dL_isOrder_3 : decode cL_isOrder 3 = .ok (.invokevirtual 65, 3) := by decide +kernel
theorem dL_isOrder_6 : decode cL_isOrder 6 = .ok (.istore_n 2, 1) := by decide +kernel
theorem dL_isOrder_7 : decode cL_isOrder 7 = .ok (.aload_n 0, 1) := by decide +kernel
theorem dL_isOrder_8 : decode cL_isOrder 8 = .ok (.iload_n 1, 1) := by decide +kernel
theorem dL_isOrder_9 : decode cL_isOrder 9 = .ok (.iconst 4, 1) := by decide +kernel
theorem dL_isOrder_10 : decode cL_isOrder 10 = .ok (.invokevirtual 65, 3) := by decide +kernel
theorem dL_isOrder_13 : decode cL_isOrder 13 = .ok (.istore_n 3, 1) := by decide +kernel
theorem dL_isOrder_14 : decode cL_isOrder 14 = .ok (.aload_n 0, 1) := by decide +kernel
theorem dL_isOrder_15 : decode cL_isOrder 15 = .ok (.iload_n 1, 1) := by decide +kernel
theorem dL_isOrder_16 : decode cL_isOrder 16 = .ok (.bipush 6, 2) := by decide +kernel
theorem dL_isOrder_18 : decode cL_isOrder 18 = .ok (.invokevirtual 65, 3) := by decide +kernel
theorem dL_isOrder_21 : decode cL_isOrder 21 = .ok (.istore 4, 2) := by decide +kernel
theorem dL_isOrder_23 : decode cL_isOrder 23 = .ok (.aload_n 0, 1) := by decide +kernel
theorem dL_isOrder_24 : decode cL_isOrder 24 = .ok (.iload_n 1, 1) := by decide +kernel
theorem dL_isOrder_25 : decode cL_isOrder 25 = .ok (.iconst 0, 1) := by decide +kernel
theorem dL_isOrder_26 : decode cL_isOrder 26 = .ok (.invokevirtual 65, 3) := by decide +kernel
theorem dL_isOrder_29 : decode cL_isOrder 29 = .ok (.aload_n 0, 1) := by decide +kernel
theorem dL_isOrder_30 : decode cL_isOrder 30 = .ok (.iload_n 1, 1) := by decide +kernel
theorem dL_isOrder_31 : decode cL_isOrder 31 = .ok (.iconst 1, 1) := by decide +kernel
theorem dL_isOrder_32 : decode cL_isOrder 32 = .ok (.invokevirtual 65, 3) := by decide +kernel
theorem dL_isOrder_35 : decode cL_isOrder 35 = .ok (.if_icmp .lt 74, 3) := by decide +kernel
theorem dL_isOrder_38 : decode cL_isOrder 38 = .ok (.aload_n 0, 1) := by decide +kernel
theorem dL_isOrder_39 : decode cL_isOrder 39 = .ok (.iload_n 1, 1) := by decide +kernel
theorem dL_isOrder_40 : decode cL_isOrder 40 = .ok (.iconst 1, 1) := by decide +kernel
theorem dL_isOrder_41 : decode cL_isOrder 41 = .ok (.invokevirtual 65, 3) := by decide +kernel
theorem dL_isOrder_44 : decode cL_isOrder 44 = .ok (.aload_n 0, 1) := by decide +kernel
theorem dL_isOrder_45 : decode cL_isOrder 45 = .ok (.iload_n 1, 1) := by decide +kernel
theorem dL_isOrder_46 : decode cL_isOrder 46 = .ok (.iconst 2, 1) := by decide +kernel
theorem dL_isOrder_47 : decode cL_isOrder 47 = .ok (.invokevirtual 65, 3) := by decide +kernel
theorem dL_isOrder_50 : decode cL_isOrder 50 = .ok (.if_icmp .lt 59, 3) := by decide +kernel
theorem dL_isOrder_53 : decode cL_isOrder 53 = .ok (.iload_n 3, 1) := by decide +kernel
theorem dL_isOrder_54 : decode cL_isOrder 54 = .ok (.bipush (-6), 2) := by decide +kernel
theorem dL_isOrder_56 : decode cL_isOrder 56 = .ok (.if_icmp .ne 7, 3) := by decide +kernel
theorem dL_isOrder_59 : decode cL_isOrder 59 = .ok (.iconst 1, 1) := by decide +kernel
theorem dL_isOrder_60 : decode cL_isOrder 60 = .ok (.goto 4, 3) := by decide +kernel
theorem dL_isOrder_63 : decode cL_isOrder 63 = .ok (.iconst 0, 1) := by decide +kernel
theorem dL_isOrder_64 : decode cL_isOrder 64 = .ok (.iload_n 2, 1) := by decide +kernel
theorem dL_isOrder_65 : decode cL_isOrder 65 = .ok (.ifCond .ne 7, 3) := by decide +kernel
theorem dL_isOrder_68 : decode cL_isOrder 68 = .ok (.iconst 1, 1) := by decide +kernel
theorem dL_isOrder_69 : decode cL_isOrder 69 = .ok (.goto 4, 3) := by decide +kernel
theorem dL_isOrder_72 : decode cL_isOrder 72 = .ok (.iconst 0, 1) := by decide +kernel
theorem dL_isOrder_73 : decode cL_isOrder 73 = .ok (.if_icmp .ne 36, 3) := by decide +kernel
theorem dL_isOrder_76 : decode cL_isOrder 76 = .ok (.aload_n 0, 1) := by decide +kernel
theorem dL_isOrder_77 : decode cL_isOrder 77 = .ok (.iload_n 1, 1) := by decide +kernel
theorem dL_isOrder_78 : decode cL_isOrder 78 = .ok (.iconst 5, 1) := by decide +kernel
theorem dL_isOrder_79 : decode cL_isOrder 79 = .ok (.invokevirtual 65, 3) := by decide +kernel
theorem dL_isOrder_82 : decode cL_isOrder 82 = .ok (.bipush (-6), 2) := by decide +kernel
theorem dL_isOrder_84 : decode cL_isOrder 84 = .ok (.if_icmp .ne 7, 3) := by decide +kernel
theorem dL_isOrder_87 : decode cL_isOrder 87 = .ok (.iconst 1, 1) := by decide +kernel
theorem dL_isOrder_88 : decode cL_isOrder 88 = .ok (.goto 4, 3) := by decide +kernel
theorem dL_isOrder_91 : decode cL_isOrder 91 = .ok (.iconst 0, 1) := by decide +kernel
theorem dL_isOrder_92 : decode cL_isOrder 92 = .ok (.iload_n 2, 1) := by decide +kernel
theorem dL_isOrder_93 : decode cL_isOrder 93 = .ok (.iconst 2, 1) := by decide +kernel
theorem dL_isOrder_94 : decode cL_isOrder 94 = .ok (.if_icmp .eq 7, 3) := by decide +kernel
theorem dL_isOrder_97 : decode cL_isOrder 97 = .ok (.iconst 1, 1) := by decide +kernel
theorem dL_isOrder_98 : decode cL_isOrder 98 = .ok (.goto 4, 3) := by decide +kernel
theorem dL_isOrder_101 : decode cL_isOrder 101 = .ok (.iconst 0, 1) := by decide +kernel
theorem dL_isOrder_102 : decode cL_isOrder 102 = .ok (.if_icmp .ne 7, 3) := by decide +kernel
theorem dL_isOrder_105 : decode cL_isOrder 105 = .ok (.iconst 1, 1) := by decide +kernel
theorem dL_isOrder_106 : decode cL_isOrder 106 = .ok (.goto 4, 3) := by decide +kernel
theorem dL_isOrder_109 : decode cL_isOrder 109 = .ok (.iconst 0, 1) := by decide +kernel
theorem dL_isOrder_110 : decode cL_isOrder 110 = .ok (.istore 5, 2) := by decide +kernel
theorem dL_isOrder_112 : decode cL_isOrder 112 = .ok (.bipush (-6), 2) := by decide +kernel
theorem dL_isOrder_114 : decode cL_isOrder 114 = .ok (.istore 6, 2) := by decide +kernel
theorem dL_isOrder_116 : decode cL_isOrder 116 = .ok (.bipush (-6), 2) := by decide +kernel
theorem dL_isOrder_118 : decode cL_isOrder 118 = .ok (.istore 7, 2) := by decide +kernel
theorem dL_isOrder_120 : decode cL_isOrder 120 = .ok (.aload_n 0, 1) := by decide +kernel
theorem dL_isOrder_121 : decode cL_isOrder 121 = .ok (.iconst 1, 1) := by decide +kernel
theorem dL_isOrder_122 : decode cL_isOrder 122 = .ok (.invokevirtual 9, 3) := by decide +kernel
theorem dL_isOrder_125 : decode cL_isOrder 125 = .ok (.iconst 1, 1) := by decide +kernel
theorem dL_isOrder_126 : decode cL_isOrder 126 = .ok (.isub, 1) := by decide +kernel
theorem dL_isOrder_127 : decode cL_isOrder 127 = .ok (.istore 8, 2) := by decide +kernel
theorem dL_isOrder_129 : decode cL_isOrder 129 = .ok (.iload 8, 2) := by decide +kernel
theorem dL_isOrder_131 : decode cL_isOrder 131 = .ok (.ifCond .lt 177, 3) := by decide +kernel
theorem dL_isOrder_134 : decode cL_isOrder 134 = .ok (.aload_n 0, 1) := by decide +kernel
theorem dL_isOrder_135 : decode cL_isOrder 135 = .ok (.iload 8, 2) := by decide +kernel
theorem dL_isOrder_137 : decode cL_isOrder 137 = .ok (.iconst 0, 1) := by decide +kernel
theorem dL_isOrder_138 : decode cL_isOrder 138 = .ok (.invokevirtual 35, 3) := by decide +kernel
theorem dL_isOrder_141 : decode cL_isOrder 141 = .ok (.aload_n 0, 1) := by decide +kernel
theorem dL_isOrder_142 : decode cL_isOrder 142 = .ok (.iload 8, 2) := by decide +kernel
theorem dL_isOrder_144 : decode cL_isOrder 144 = .ok (.iconst 1, 1) := by decide +kernel
theorem dL_isOrder_145 : decode cL_isOrder 145 = .ok (.invokevirtual 35, 3) := by decide +kernel
theorem dL_isOrder_148 : decode cL_isOrder 148 = .ok (.iadd, 1) := by decide +kernel
theorem dL_isOrder_149 : decode cL_isOrder 149 = .ok (.aload_n 0, 1) := by decide +kernel
theorem dL_isOrder_150 : decode cL_isOrder 150 = .ok (.iload 8, 2) := by decide +kernel
theorem dL_isOrder_152 : decode cL_isOrder 152 = .ok (.iconst 2, 1) := by decide +kernel
theorem dL_isOrder_153 : decode cL_isOrder 153 = .ok (.invokevirtual 35, 3) := by decide +kernel
theorem dL_isOrder_156 : decode cL_isOrder 156 = .ok (.iadd, 1) := by decide +kernel
theorem dL_isOrder_157 : decode cL_isOrder 157 = .ok (.aload_n 0, 1) := by decide +kernel
theorem dL_isOrder_158 : decode cL_isOrder 158 = .ok (.iload_n 1, 1) := by decide +kernel
theorem dL_isOrder_159 : decode cL_isOrder 159 = .ok (.iconst 0, 1) := by decide +kernel
theorem dL_isOrder_160 : decode cL_isOrder 160 = .ok (.invokevirtual 65, 3) := by decide +kernel
theorem dL_isOrder_163 : decode cL_isOrder 163 = .ok (.isub, 1) := by decide +kernel
theorem dL_isOrder_164 : decode cL_isOrder 164 = .ok (.aload_n 0, 1) := by decide +kernel
theorem dL_isOrder_165 : decode cL_isOrder 165 = .ok (.iload_n 1, 1) := by decide +kernel
theorem dL_isOrder_166 : decode cL_isOrder 166 = .ok (.iconst 1, 1) := by decide +kernel
theorem dL_isOrder_167 : decode cL_isOrder 167 = .ok (.invokevirtual 65, 3) := by decide +kernel
theorem dL_isOrder_170 : decode cL_isOrder 170 = .ok (.isub, 1) := by decide +kernel
theorem dL_isOrder_171 : decode cL_isOrder 171 = .ok (.aload_n 0, 1) := by decide +kernel
theorem dL_isOrder_172 : decode cL_isOrder 172 = .ok (.iload_n 1, 1) := by decide +kernel
theorem dL_isOrder_173 : decode cL_isOrder 173 = .ok (.iconst 2, 1) := by decide +kernel
theorem dL_isOrder_174 : decode cL_isOrder 174 = .ok (.invokevirtual 65, 3) := by decide +kernel
theorem dL_isOrder_177 : decode cL_isOrder 177 = .ok (.isub, 1) := by decide +kernel
theorem dL_isOrder_178 : decode cL_isOrder 178 = .ok (.istore 9, 2) := by decide +kernel
theorem dL_isOrder_180 : decode cL_isOrder 180 = .ok (.iload 4, 2) := by decide +kernel
theorem dL_isOrder_182 : decode cL_isOrder 182 = .ok (.iload 8, 2) := by decide +kernel
theorem dL_isOrder_184 : decode cL_isOrder 184 = .ok (.ishr, 1) := by decide +kernel
theorem dL_isOrder_185 : decode cL_isOrder 185 = .ok (.iconst 1, 1) := by decide +kernel
theorem dL_isOrder_186 : decode cL_isOrder 186 = .ok (.iand, 1) := by decide +kernel
theorem dL_isOrder_187 : decode cL_isOrder 187 = .ok (.iconst 1, 1) := by decide +kernel
theorem dL_isOrder_188 : decode cL_isOrder 188 = .ok (.if_icmp .ne 114, 3) := by decide +kernel
theorem dL_isOrder_191 : decode cL_isOrder 191 = .ok (.iload 5, 2) := by decide +kernel
theorem dL_isOrder_193 : decode cL_isOrder 193 = .ok (.ifCond .eq 60, 3) := by decide +kernel
theorem dL_isOrder_196 : decode cL_isOrder 196 = .ok (.aload_n 0, 1) := by decide +kernel
theorem dL_isOrder_197 : decode cL_isOrder 197 = .ok (.iload 8, 2) := by decide +kernel
theorem dL_isOrder_199 : decode cL_isOrder 199 = .ok (.bipush 7, 2) := by decide +kernel
theorem dL_isOrder_201 : decode cL_isOrder 201 = .ok (.invokevirtual 35, 3) := by decide +kernel
theorem dL_isOrder_204 : decode cL_isOrder 204 = .ok (.ifCond .ne 49, 3) := by decide +kernel
theorem dL_isOrder_207 : decode cL_isOrder 207 = .ok (.aload_n 0, 1) := by decide +kernel
theorem dL_isOrder_208 : decode cL_isOrder 208 = .ok (.iload 8, 2) := by decide +kernel
theorem dL_isOrder_210 : decode cL_isOrder 210 = .ok (.bipush 8, 2) := by decide +kernel
theorem dL_isOrder_212 : decode cL_isOrder 212 = .ok (.invokevirtual 35, 3) := by decide +kernel
theorem dL_isOrder_215 : decode cL_isOrder 215 = .ok (.bipush (-6), 2) := by decide +kernel
theorem dL_isOrder_217 : decode cL_isOrder 217 = .ok (.if_icmp .ne 36, 3) := by decide +kernel
theorem dL_isOrder_220 : decode cL_isOrder 220 = .ok (.aload_n 0, 1) := by decide +kernel
theorem dL_isOrder_221 : decode cL_isOrder 221 = .ok (.iload 8, 2) := by decide +kernel
theorem dL_isOrder_223 : decode cL_isOrder 223 = .ok (.iconst 5, 1) := by decide +kernel
theorem dL_isOrder_224 : decode cL_isOrder 224 = .ok (.invokevirtual 35, 3) := by decide +kernel
theorem dL_isOrder_227 : decode cL_isOrder 227 = .ok (.iconst 3, 1) := by decide +kernel
theorem dL_isOrder_228 : decode cL_isOrder 228 = .ok (.if_icmp .ge 25, 3) := by decide +kernel
theorem dL_isOrder_231 : decode cL_isOrder 231 = .ok (.iload 9, 2) := by decide +kernel
theorem dL_isOrder_233 : decode cL_isOrder 233 = .ok (.ifCond .lt 20, 3) := by decide +kernel
theorem dL_isOrder_236 : decode cL_isOrder 236 = .ok (.iload 9, 2) := by decide +kernel
theorem dL_isOrder_238 : decode cL_isOrder 238 = .ok (.iconst 3, 1) := by decide +kernel
theorem dL_isOrder_239 : decode cL_isOrder 239 = .ok (.aload_n 0, 1) := by decide +kernel
theorem dL_isOrder_240 : decode cL_isOrder 240 = .ok (.bipush 14, 2) := by decide +kernel
theorem dL_isOrder_242 : decode cL_isOrder 242 = .ok (.invokevirtual 9, 3) := by decide +kernel
theorem dL_isOrder_245 : decode cL_isOrder 245 = .ok (.imul, 1) := by decide +kernel
theorem dL_isOrder_246 : decode cL_isOrder 246 = .ok (.if_icmp .gt 7, 3) := by decide +kernel
theorem dL_isOrder_249 : decode cL_isOrder 249 = .ok (.iconst 1, 1) := by decide +kernel
theorem dL_isOrder_250 : decode cL_isOrder 250 = .ok (.goto 4, 3) := by decide +kernel
theorem dL_isOrder_253 : decode cL_isOrder 253 = .ok (.iconst 0, 1) := by decide +kernel
theorem dL_isOrder_254 : decode cL_isOrder 254 = .ok (.istore 5, 2) := by decide +kernel
theorem dL_isOrder_256 : decode cL_isOrder 256 = .ok (.iload 6, 2) := by decide +kernel
theorem dL_isOrder_258 : decode cL_isOrder 258 = .ok (.bipush (-6), 2) := by decide +kernel
theorem dL_isOrder_260 : decode cL_isOrder 260 = .ok (.if_icmp .eq 10, 3) := by decide +kernel
theorem dL_isOrder_263 : decode cL_isOrder 263 = .ok (.iload 9, 2) := by decide +kernel
theorem dL_isOrder_265 : decode cL_isOrder 265 = .ok (.iload 6, 2) := by decide +kernel
theorem dL_isOrder_267 : decode cL_isOrder 267 = .ok (.if_icmp .gt 8, 3) := by decide +kernel
theorem dL_isOrder_270 : decode cL_isOrder 270 = .ok (.iload 8, 2) := by decide +kernel
theorem dL_isOrder_272 : decode cL_isOrder 272 = .ok (.goto 5, 3) := by decide +kernel
theorem dL_isOrder_275 : decode cL_isOrder 275 = .ok (.iload 7, 2) := by decide +kernel
theorem dL_isOrder_277 : decode cL_isOrder 277 = .ok (.istore 7, 2) := by decide +kernel
theorem dL_isOrder_279 : decode cL_isOrder 279 = .ok (.iload 6, 2) := by decide +kernel
theorem dL_isOrder_281 : decode cL_isOrder 281 = .ok (.bipush (-6), 2) := by decide +kernel
theorem dL_isOrder_283 : decode cL_isOrder 283 = .ok (.if_icmp .eq 10, 3) := by decide +kernel
theorem dL_isOrder_286 : decode cL_isOrder 286 = .ok (.iload 9, 2) := by decide +kernel
theorem dL_isOrder_288 : decode cL_isOrder 288 = .ok (.iload 6, 2) := by decide +kernel
theorem dL_isOrder_290 : decode cL_isOrder 290 = .ok (.if_icmp .ge 8, 3) := by decide +kernel
theorem dL_isOrder_293 : decode cL_isOrder 293 = .ok (.iload 9, 2) := by decide +kernel
theorem dL_isOrder_295 : decode cL_isOrder 295 = .ok (.goto 5, 3) := by decide +kernel
theorem dL_isOrder_298 : decode cL_isOrder 298 = .ok (.iload 6, 2) := by decide +kernel
theorem dL_isOrder_300 : decode cL_isOrder 300 = .ok (.istore 6, 2) := by decide +kernel
theorem dL_isOrder_302 : decode cL_isOrder 302 = .ok (.iinc 8 (-1), 3) := by decide +kernel
theorem dL_isOrder_305 : decode cL_isOrder 305 = .ok (.goto (-176), 3) := by decide +kernel
theorem dL_isOrder_308 : decode cL_isOrder 308 = .ok (.iload 5, 2) := by decide +kernel
theorem dL_isOrder_310 : decode cL_isOrder 310 = .ok (.ifCond .eq 39, 3) := by decide +kernel
theorem dL_isOrder_313 : decode cL_isOrder 313 = .ok (.iload_n 2, 1) := by decide +kernel
theorem dL_isOrder_314 : decode cL_isOrder 314 = .ok (.ifCond .ne 16, 3) := by decide +kernel
theorem dL_isOrder_317 : decode cL_isOrder 317 = .ok (.aload_n 0, 1) := by decide +kernel
theorem dL_isOrder_318 : decode cL_isOrder 318 = .ok (.iload_n 1, 1) := by decide +kernel
theorem dL_isOrder_319 : decode cL_isOrder 319 = .ok (.invokevirtual 72, 3) := by decide +kernel
theorem dL_isOrder_322 : decode cL_isOrder 322 = .ok (.iload 7, 2) := by decide +kernel
theorem dL_isOrder_324 : decode cL_isOrder 324 = .ok (.if_icmp .ne 25, 3) := by decide +kernel
theorem dL_isOrder_327 : decode cL_isOrder 327 = .ok (.goto 18, 3) := by decide +kernel
theorem dL_isOrder_330 : decode cL_isOrder 330 = .ok (.iload 4, 2) := by decide +kernel
theorem dL_isOrder_332 : decode cL_isOrder 332 = .ok (.ifCond .ne 17, 3) := by decide +kernel
theorem dL_isOrder_335 : decode cL_isOrder 335 = .ok (.aload_n 0, 1) := by decide +kernel
theorem dL_isOrder_336 : decode cL_isOrder 336 = .ok (.iload_n 1, 1) := by decide +kernel
theorem dL_isOrder_337 : decode cL_isOrder 337 = .ok (.invokevirtual 72, 3) := by decide +kernel
theorem dL_isOrder_340 : decode cL_isOrder 340 = .ok (.bipush (-5), 2) := by decide +kernel
theorem dL_isOrder_342 : decode cL_isOrder 342 = .ok (.if_icmp .ne 7, 3) := by decide +kernel
theorem dL_isOrder_345 : decode cL_isOrder 345 = .ok (.iconst 1, 1) := by decide +kernel
theorem dL_isOrder_346 : decode cL_isOrder 346 = .ok (.goto 4, 3) := by decide +kernel
theorem dL_isOrder_349 : decode cL_isOrder 349 = .ok (.iconst 0, 1) := by decide +kernel
theorem dL_isOrder_350 : decode cL_isOrder 350 = .ok (.ireturn, 1) := by decide +kernel
theorem dL_axle_0 : decode cL_axle 0 = .ok (.iconst 0, 1) := by decide +kernel
theorem dL_axle_1 : decode cL_axle 1 = .ok (.istore_n 3, 1) := by decide +kernel
theorem dL_axle_2 : decode cL_axle 2 = .ok (.iconst 0, 1) := by decide +kernel
theorem dL_axle_3 : decode cL_axle 3 = .ok (.istore 4, 2) := by decide +kernel
theorem dL_axle_5 : decode cL_axle 5 = .ok (.iload 4, 2) := by decide +kernel
theorem dL_axle_7 : decode cL_axle 7 = .ok (.aload_n 0, 1) := by decide +kernel
theorem dL_axle_8 : decode cL_axle 8 = .ok (.iconst 1, 1) := by decide +kernel
theorem dL_axle_9 : decode cL_axle 9 = .ok (.invokevirtual 9, 3) := by decide +kernel
theorem dL_axle_12 : decode cL_axle 12 = .ok (.if_icmp .ge 78, 3) := by decide +kernel
theorem dL_axle_15 : decode cL_axle 15 = .ok (.aload_n 0, 1) := by decide +kernel
theorem dL_axle_16 : decode cL_axle 16 = .ok (.iload 4, 2) := by decide +kernel
theorem dL_axle_18 : decode cL_axle 18 = .ok (.bipush 9, 2) := by decide +kernel
theorem dL_axle_20 : decode cL_axle 20 = .ok (.invokevirtual 35, 3) := by decide +kernel
theorem dL_axle_23 : decode cL_axle 23 = .ok (.istore 5, 2) := by decide +kernel
theorem dL_axle_25 : decode cL_axle 25 = .ok (.aload_n 0, 1) := by decide +kernel
theorem dL_axle_26 : decode cL_axle 26 = .ok (.iload_n 1, 1) := by decide +kernel
theorem dL_axle_27 : decode cL_axle 27 = .ok (.iconst 3, 1) := by decide +kernel
theorem dL_axle_28 : decode cL_axle 28 = .ok (.invokevirtual 62, 3) := by decide +kernel
theorem dL_axle_31 : decode cL_axle 31 = .ok (.iload 4, 2) := by decide +kernel
theorem dL_axle_33 : decode cL_axle 33 = .ok (.ishr, 1) := by decide +kernel
theorem dL_axle_34 : decode cL_axle 34 = .ok (.iconst 1, 1) := by decide +kernel
theorem dL_axle_35 : decode cL_axle 35 = .ok (.iand, 1) := by decide +kernel
theorem dL_axle_36 : decode cL_axle 36 = .ok (.iconst 1, 1) := by decide +kernel
theorem dL_axle_37 : decode cL_axle 37 = .ok (.if_icmp .ne 7, 3) := by decide +kernel
theorem dL_axle_40 : decode cL_axle 40 = .ok (.iconst 1, 1) := by decide +kernel
theorem dL_axle_41 : decode cL_axle 41 = .ok (.goto 4, 3) := by decide +kernel
theorem dL_axle_44 : decode cL_axle 44 = .ok (.iconst 0, 1) := by decide +kernel
theorem dL_axle_45 : decode cL_axle 45 = .ok (.istore 6, 2) := by decide +kernel
theorem dL_axle_47 : decode cL_axle 47 = .ok (.iload_n 3, 1) := by decide +kernel
theorem dL_axle_48 : decode cL_axle 48 = .ok (.iload 6, 2) := by decide +kernel
theorem dL_axle_50 : decode cL_axle 50 = .ok (.ifCond .ne 7, 3) := by decide +kernel
theorem dL_axle_53 : decode cL_axle 53 = .ok (.iconst 0, 1) := by decide +kernel
theorem dL_axle_54 : decode cL_axle 54 = .ok (.goto 28, 3) := by decide +kernel
theorem dL_axle_57 : decode cL_axle 57 = .ok (.aload_n 0, 1) := by decide +kernel
theorem dL_axle_58 : decode cL_axle 58 = .ok (.iload 4, 2) := by decide +kernel
theorem dL_axle_60 : decode cL_axle 60 = .ok (.iconst 4, 1) := by decide +kernel
theorem dL_axle_61 : decode cL_axle 61 = .ok (.invokevirtual 35, 3) := by decide +kernel
theorem dL_axle_64 : decode cL_axle 64 = .ok (.iload_n 2, 1) := by decide +kernel
theorem dL_axle_65 : decode cL_axle 65 = .ok (.ifCond .eq 10, 3) := by decide +kernel
theorem dL_axle_68 : decode cL_axle 68 = .ok (.iload 5, 2) := by decide +kernel
theorem dL_axle_70 : decode cL_axle 70 = .ok (.iconst 5, 1) := by decide +kernel
theorem dL_axle_71 : decode cL_axle 71 = .ok (.irem, 1) := by decide +kernel
theorem dL_axle_72 : decode cL_axle 72 = .ok (.goto 9, 3) := by decide +kernel
theorem dL_axle_75 : decode cL_axle 75 = .ok (.iconst 4, 1) := by decide +kernel
theorem dL_axle_76 : decode cL_axle 76 = .ok (.iload 5, 2) := by decide +kernel
theorem dL_axle_78 : decode cL_axle 78 = .ok (.iconst 5, 1) := by decide +kernel
theorem dL_axle_79 : decode cL_axle 79 = .ok (.irem, 1) := by decide +kernel
theorem dL_axle_80 : decode cL_axle 80 = .ok (.isub, 1) := by decide +kernel
theorem dL_axle_81 : decode cL_axle 81 = .ok (.imul, 1) := by decide +kernel
theorem dL_axle_82 : decode cL_axle 82 = .ok (.iadd, 1) := by decide +kernel
theorem dL_axle_83 : decode cL_axle 83 = .ok (.istore_n 3, 1) := by decide +kernel
theorem dL_axle_84 : decode cL_axle 84 = .ok (.iinc 4 1, 3) := by decide +kernel
theorem dL_axle_87 : decode cL_axle 87 = .ok (.goto (-82), 3) := by decide +kernel
theorem dL_axle_90 : decode cL_axle 90 = .ok (.iload_n 3, 1) := by decide +kernel
theorem dL_axle_91 : decode cL_axle 91 = .ok (.ireturn, 1) := by decide +kernel
theorem dL_bitsOf_0 : decode cL_bitsOf 0 = .ok (.iconst 0, 1) := by decide +kernel
theorem dL_bitsOf_1 : decode cL_bitsOf 1 = .ok (.istore_n 1, 1) := by decide +kernel
theorem dL_bitsOf_2 : decode cL_bitsOf 2 = .ok (.iload_n 0, 1) := by decide +kernel
theorem dL_bitsOf_3 : decode cL_bitsOf 3 = .ok (.iload_n 1, 1) := by decide +kernel
theorem dL_bitsOf_4 : decode cL_bitsOf 4 = .ok (.ishr, 1) := by decide +kernel
theorem dL_bitsOf_5 : decode cL_bitsOf 5 = .ok (.iconst 1, 1) := by decide +kernel
theorem dL_bitsOf_6 : decode cL_bitsOf 6 = .ok (.if_icmp .le 9, 3) := by decide +kernel
theorem dL_bitsOf_9 : decode cL_bitsOf 9 = .ok (.iinc 1 1, 3) := by decide +kernel
theorem dL_bitsOf_12 : decode cL_bitsOf 12 = .ok (.goto (-10), 3) := by decide +kernel
theorem dL_bitsOf_15 : decode cL_bitsOf 15 = .ok (.iload_n 0, 1) := by decide +kernel
theorem dL_bitsOf_16 : decode cL_bitsOf 16 = .ok (.ifCond .ne 7, 3) := by decide +kernel
theorem dL_bitsOf_19 : decode cL_bitsOf 19 = .ok (.iconst 0, 1) := by decide +kernel
theorem dL_bitsOf_20 : decode cL_bitsOf 20 = .ok (.goto 20, 3) := by decide +kernel
theorem dL_bitsOf_23 : decode cL_bitsOf 23 = .ok (.bipush 125, 2) := by decide +kernel
theorem dL_bitsOf_25 : decode cL_bitsOf 25 = .ok (.iload_n 1, 1) := by decide +kernel
theorem dL_bitsOf_26 : decode cL_bitsOf 26 = .ok (.iadd, 1) := by decide +kernel
theorem dL_bitsOf_27 : decode cL_bitsOf 27 = .ok (.bipush 23, 2) := by decide +kernel
theorem dL_bitsOf_29 : decode cL_bitsOf 29 = .ok (.ishl, 1) := by decide +kernel
theorem dL_bitsOf_30 : decode cL_bitsOf 30 = .ok (.iload_n 0, 1) := by decide +kernel
theorem dL_bitsOf_31 : decode cL_bitsOf 31 = .ok (.bipush 23, 2) := by decide +kernel
theorem dL_bitsOf_33 : decode cL_bitsOf 33 = .ok (.iload_n 1, 1) := by decide +kernel
theorem dL_bitsOf_34 : decode cL_bitsOf 34 = .ok (.isub, 1) := by decide +kernel
theorem dL_bitsOf_35 : decode cL_bitsOf 35 = .ok (.ishl, 1) := by decide +kernel
theorem dL_bitsOf_36 : decode cL_bitsOf 36 = .ok (.ldc 75, 2) := by decide +kernel
theorem dL_bitsOf_38 : decode cL_bitsOf 38 = .ok (.iand, 1) := by decide +kernel
theorem dL_bitsOf_39 : decode cL_bitsOf 39 = .ok (.ior, 1) := by decide +kernel
theorem dL_bitsOf_40 : decode cL_bitsOf 40 = .ok (.ireturn, 1) := by decide +kernel
theorem dL_isLorry_0 : decode cL_isLorry 0 = .ok (.aload_n 0, 1) := by decide +kernel
theorem dL_isLorry_1 : decode cL_isLorry 1 = .ok (.iload_n 1, 1) := by decide +kernel
theorem dL_isLorry_2 : decode cL_isLorry 2 = .ok (.iconst 0, 1) := by decide +kernel
theorem dL_isLorry_3 : decode cL_isLorry 3 = .ok (.invokestatic 76, 3) := by decide +kernel
theorem dL_isLorry_6 : decode cL_isLorry 6 = .ok (.istore_n 2, 1) := by decide +kernel
theorem dL_isLorry_7 : decode cL_isLorry 7 = .ok (.aload_n 0, 1) := by decide +kernel
theorem dL_isLorry_8 : decode cL_isLorry 8 = .ok (.iload_n 1, 1) := by decide +kernel
theorem dL_isLorry_9 : decode cL_isLorry 9 = .ok (.iconst 1, 1) := by decide +kernel
theorem dL_isLorry_10 : decode cL_isLorry 10 = .ok (.invokestatic 76, 3) := by decide +kernel
