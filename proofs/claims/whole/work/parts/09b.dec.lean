theorem dX6_addBlock_111 : decode cX6_addBlock 111 = .ok (.invokevirtual 44, 3) := by decide +kernel
theorem dX6_addBlock_114 : decode cX6_addBlock 114 = .ok (.aload_n 0, 1) := by decide +kernel
theorem dX6_addBlock_115 : decode cX6_addBlock 115 = .ok (.getfield 9, 3) := by decide +kernel
theorem dX6_addBlock_118 : decode cX6_addBlock 118 = .ok (.iload 5, 2) := by decide +kernel
theorem dX6_addBlock_120 : decode cX6_addBlock 120 = .ok (.bipush 7, 2) := by decide +kernel
theorem dX6_addBlock_122 : decode cX6_addBlock 122 = .ok (.iconst 0, 1) := by decide +kernel
theorem dX6_addBlock_123 : decode cX6_addBlock 123 = .ok (.invokevirtual 44, 3) := by decide +kernel
theorem dX6_addBlock_126 : decode cX6_addBlock 126 = .ok (.aload_n 0, 1) := by decide +kernel
theorem dX6_addBlock_127 : decode cX6_addBlock 127 = .ok (.getfield 9, 3) := by decide +kernel
theorem dX6_addBlock_130 : decode cX6_addBlock 130 = .ok (.iload 5, 2) := by decide +kernel
theorem dX6_addBlock_132 : decode cX6_addBlock 132 = .ok (.bipush 8, 2) := by decide +kernel
theorem dX6_addBlock_134 : decode cX6_addBlock 134 = .ok (.bipush (-6), 2) := by decide +kernel
theorem dX6_addBlock_136 : decode cX6_addBlock 136 = .ok (.invokevirtual 44, 3) := by decide +kernel
theorem dX6_addBlock_139 : decode cX6_addBlock 139 = .ok (.aload_n 0, 1) := by decide +kernel
theorem dX6_addBlock_140 : decode cX6_addBlock 140 = .ok (.getfield 9, 3) := by decide +kernel
theorem dX6_addBlock_143 : decode cX6_addBlock 143 = .ok (.iload 5, 2) := by decide +kernel
theorem dX6_addBlock_145 : decode cX6_addBlock 145 = .ok (.bipush 9, 2) := by decide +kernel
theorem dX6_addBlock_147 : decode cX6_addBlock 147 = .ok (.bipush (-6), 2) := by decide +kernel
theorem dX6_addBlock_149 : decode cX6_addBlock 149 = .ok (.invokevirtual 44, 3) := by decide +kernel
theorem dX6_addBlock_152 : decode cX6_addBlock 152 = .ok (.aload_n 0, 1) := by decide +kernel
theorem dX6_addBlock_153 : decode cX6_addBlock 153 = .ok (.getfield 9, 3) := by decide +kernel
theorem dX6_addBlock_156 : decode cX6_addBlock 156 = .ok (.iload 5, 2) := by decide +kernel
theorem dX6_addBlock_158 : decode cX6_addBlock 158 = .ok (.bipush 10, 2) := by decide +kernel
theorem dX6_addBlock_160 : decode cX6_addBlock 160 = .ok (.bipush (-6), 2) := by decide +kernel
theorem dX6_addBlock_162 : decode cX6_addBlock 162 = .ok (.invokevirtual 44, 3) := by decide +kernel
theorem dX6_addBlock_165 : decode cX6_addBlock 165 = .ok (.iload 5, 2) := by decide +kernel
theorem dX6_addBlock_167 : decode cX6_addBlock 167 = .ok (.ireturn, 1) := by decide +kernel
theorem dX6_cutBlock_0 : decode cX6_cutBlock 0 = .ok (.aload_n 0, 1) := by decide +kernel
theorem dX6_cutBlock_1 : decode cX6_cutBlock 1 = .ok (.getfield 9, 3) := by decide +kernel
theorem dX6_cutBlock_4 : decode cX6_cutBlock 4 = .ok (.iload_n 1, 1) := by decide +kernel
theorem dX6_cutBlock_5 : decode cX6_cutBlock 5 = .ok (.invokevirtual 48, 3) := by decide +kernel
theorem dX6_cutBlock_8 : decode cX6_cutBlock 8 = .ok (.ifCond .ne 5, 3) := by decide +kernel
theorem dX6_cutBlock_11 : decode cX6_cutBlock 11 = .ok (.iconst (-1), 1) := by decide +kernel
theorem dX6_cutBlock_12 : decode cX6_cutBlock 12 = .ok (.ireturn, 1) := by decide +kernel
theorem dX6_cutBlock_13 : decode cX6_cutBlock 13 = .ok (.iload_n 2, 1) := by decide +kernel
theorem dX6_cutBlock_14 : decode cX6_cutBlock 14 = .ok (.ifCond .lt 15, 3) := by decide +kernel
theorem dX6_cutBlock_17 : decode cX6_cutBlock 17 = .ok (.iload_n 2, 1) := by decide +kernel
theorem dX6_cutBlock_18 : decode cX6_cutBlock 18 = .ok (.iconst 3, 1) := by decide +kernel
theorem dX6_cutBlock_19 : decode cX6_cutBlock 19 = .ok (.if_icmp .ge 10, 3) := by decide +kernel
theorem dX6_cutBlock_22 : decode cX6_cutBlock 22 = .ok (.iload_n 3, 1) := by decide +kernel
theorem dX6_cutBlock_23 : decode cX6_cutBlock 23 = .ok (.invokestatic 36, 3) := by decide +kernel
theorem dX6_cutBlock_26 : decode cX6_cutBlock 26 = .ok (.ifCond .ne 6, 3) := by decide +kernel
theorem dX6_cutBlock_29 : decode cX6_cutBlock 29 = .ok (.bipush (-2), 2) := by decide +kernel
theorem dX6_cutBlock_31 : decode cX6_cutBlock 31 = .ok (.ireturn, 1) := by decide +kernel
theorem dX6_cutBlock_32 : decode cX6_cutBlock 32 = .ok (.aload_n 0, 1) := by decide +kernel
theorem dX6_cutBlock_33 : decode cX6_cutBlock 33 = .ok (.getfield 9, 3) := by decide +kernel
theorem dX6_cutBlock_36 : decode cX6_cutBlock 36 = .ok (.iload_n 1, 1) := by decide +kernel
theorem dX6_cutBlock_37 : decode cX6_cutBlock 37 = .ok (.iload_n 2, 1) := by decide +kernel
theorem dX6_cutBlock_38 : decode cX6_cutBlock 38 = .ok (.invokevirtual 51, 3) := by decide +kernel
theorem dX6_cutBlock_41 : decode cX6_cutBlock 41 = .ok (.iload_n 3, 1) := by decide +kernel
theorem dX6_cutBlock_42 : decode cX6_cutBlock 42 = .ok (.isub, 1) := by decide +kernel
theorem dX6_cutBlock_43 : decode cX6_cutBlock 43 = .ok (.aload_n 0, 1) := by decide +kernel
theorem dX6_cutBlock_44 : decode cX6_cutBlock 44 = .ok (.getfield 9, 3) := by decide +kernel
theorem dX6_cutBlock_47 : decode cX6_cutBlock 47 = .ok (.iconst 0, 1) := by decide +kernel
theorem dX6_cutBlock_48 : decode cX6_cutBlock 48 = .ok (.invokevirtual 26, 3) := by decide +kernel
theorem dX6_cutBlock_51 : decode cX6_cutBlock 51 = .ok (.isub, 1) := by decide +kernel
theorem dX6_cutBlock_52 : decode cX6_cutBlock 52 = .ok (.istore 4, 2) := by decide +kernel
theorem dX6_cutBlock_54 : decode cX6_cutBlock 54 = .ok (.aload_n 0, 1) := by decide +kernel
theorem dX6_cutBlock_55 : decode cX6_cutBlock 55 = .ok (.getfield 15, 3) := by decide +kernel
theorem dX6_cutBlock_58 : decode cX6_cutBlock 58 = .ok (.iload_n 1, 1) := by decide +kernel
theorem dX6_cutBlock_59 : decode cX6_cutBlock 59 = .ok (.invokevirtual 55, 3) := by decide +kernel
theorem dX6_cutBlock_62 : decode cX6_cutBlock 62 = .ok (.ifCond .eq 9, 3) := by decide +kernel
theorem dX6_cutBlock_65 : decode cX6_cutBlock 65 = .ok (.iload 4, 2) := by decide +kernel
theorem dX6_cutBlock_67 : decode cX6_cutBlock 67 = .ok (.iconst 1, 1) := by decide +kernel
theorem dX6_cutBlock_68 : decode cX6_cutBlock 68 = .ok (.if_icmp .ge 6, 3) := by decide +kernel
theorem dX6_cutBlock_71 : decode cX6_cutBlock 71 = .ok (.bipush (-5), 2) := by decide +kernel
theorem dX6_cutBlock_73 : decode cX6_cutBlock 73 = .ok (.ireturn, 1) := by decide +kernel
theorem dX6_cutBlock_74 : decode cX6_cutBlock 74 = .ok (.aload_n 0, 1) := by decide +kernel
theorem dX6_cutBlock_75 : decode cX6_cutBlock 75 = .ok (.getfield 9, 3) := by decide +kernel
theorem dX6_cutBlock_78 : decode cX6_cutBlock 78 = .ok (.bipush 6, 2) := by decide +kernel
theorem dX6_cutBlock_80 : decode cX6_cutBlock 80 = .ok (.invokevirtual 26, 3) := by decide +kernel
theorem dX6_cutBlock_83 : decode cX6_cutBlock 83 = .ok (.iconst 2, 1) := by decide +kernel
theorem dX6_cutBlock_84 : decode cX6_cutBlock 84 = .ok (.iadd, 1) := by decide +kernel
theorem dX6_cutBlock_85 : decode cX6_cutBlock 85 = .ok (.bipush 24, 2) := by decide +kernel
theorem dX6_cutBlock_87 : decode cX6_cutBlock 87 = .ok (.if_icmp .le 6, 3) := by decide +kernel
theorem dX6_cutBlock_90 : decode cX6_cutBlock 90 = .ok (.bipush (-4), 2) := by decide +kernel
theorem dX6_cutBlock_92 : decode cX6_cutBlock 92 = .ok (.ireturn, 1) := by decide +kernel
theorem dX6_cutBlock_93 : decode cX6_cutBlock 93 = .ok (.aload_n 0, 1) := by decide +kernel
theorem dX6_cutBlock_94 : decode cX6_cutBlock 94 = .ok (.getfield 9, 3) := by decide +kernel
theorem dX6_cutBlock_97 : decode cX6_cutBlock 97 = .ok (.iload_n 1, 1) := by decide +kernel
theorem dX6_cutBlock_98 : decode cX6_cutBlock 98 = .ok (.iconst 5, 1) := by decide +kernel
theorem dX6_cutBlock_99 : decode cX6_cutBlock 99 = .ok (.invokevirtual 51, 3) := by decide +kernel
theorem dX6_cutBlock_102 : decode cX6_cutBlock 102 = .ok (.iconst 1, 1) := by decide +kernel
theorem dX6_cutBlock_103 : decode cX6_cutBlock 103 = .ok (.if_icmp .ne 7, 3) := by decide +kernel
theorem dX6_cutBlock_106 : decode cX6_cutBlock 106 = .ok (.iconst 1, 1) := by decide +kernel
theorem dX6_cutBlock_107 : decode cX6_cutBlock 107 = .ok (.goto 4, 3) := by decide +kernel
theorem dX6_cutBlock_110 : decode cX6_cutBlock 110 = .ok (.iconst 0, 1) := by decide +kernel
theorem dX6_cutBlock_111 : decode cX6_cutBlock 111 = .ok (.istore 5, 2) := by decide +kernel
theorem dX6_cutBlock_113 : decode cX6_cutBlock 113 = .ok (.aload_n 0, 1) := by decide +kernel
theorem dX6_cutBlock_114 : decode cX6_cutBlock 114 = .ok (.getfield 9, 3) := by decide +kernel
theorem dX6_cutBlock_117 : decode cX6_cutBlock 117 = .ok (.iload_n 1, 1) := by decide +kernel
theorem dX6_cutBlock_118 : decode cX6_cutBlock 118 = .ok (.iconst 5, 1) := by decide +kernel
theorem dX6_cutBlock_119 : decode cX6_cutBlock 119 = .ok (.iconst 4, 1) := by decide +kernel
theorem dX6_cutBlock_120 : decode cX6_cutBlock 120 = .ok (.invokevirtual 44, 3) := by decide +kernel
theorem dX6_cutBlock_123 : decode cX6_cutBlock 123 = .ok (.aload_n 0, 1) := by decide +kernel
theorem dX6_cutBlock_124 : decode cX6_cutBlock 124 = .ok (.iload_n 1, 1) := by decide +kernel
theorem dX6_cutBlock_125 : decode cX6_cutBlock 125 = .ok (.iload_n 2, 1) := by decide +kernel
theorem dX6_cutBlock_126 : decode cX6_cutBlock 126 = .ok (.iload_n 3, 1) := by decide +kernel
theorem dX6_cutBlock_127 : decode cX6_cutBlock 127 = .ok (.iload 5, 2) := by decide +kernel
theorem dX6_cutBlock_129 : decode cX6_cutBlock 129 = .ok (.invokevirtual 60, 3) := by decide +kernel
theorem dX6_cutBlock_132 : decode cX6_cutBlock 132 = .ok (.istore 6, 2) := by decide +kernel
theorem dX6_cutBlock_134 : decode cX6_cutBlock 134 = .ok (.aload_n 0, 1) := by decide +kernel
theorem dX6_cutBlock_135 : decode cX6_cutBlock 135 = .ok (.iload_n 1, 1) := by decide +kernel
theorem dX6_cutBlock_136 : decode cX6_cutBlock 136 = .ok (.iload_n 2, 1) := by decide +kernel
theorem dX6_cutBlock_137 : decode cX6_cutBlock 137 = .ok (.iload 4, 2) := by decide +kernel
theorem dX6_cutBlock_139 : decode cX6_cutBlock 139 = .ok (.iload 5, 2) := by decide +kernel
theorem dX6_cutBlock_141 : decode cX6_cutBlock 141 = .ok (.invokevirtual 60, 3) := by decide +kernel
theorem dX6_cutBlock_144 : decode cX6_cutBlock 144 = .ok (.pop, 1) := by decide +kernel
theorem dX6_cutBlock_145 : decode cX6_cutBlock 145 = .ok (.iload 6, 2) := by decide +kernel
theorem dX6_cutBlock_147 : decode cX6_cutBlock 147 = .ok (.ireturn, 1) := by decide +kernel
theorem dX6_addPiece_0 : decode cX6_addPiece 0 = .ok (.iload_n 2, 1) := by decide +kernel
theorem dX6_addPiece_1 : decode cX6_addPiece 1 = .ok (.ifCond .ne 7, 3) := by decide +kernel
theorem dX6_addPiece_4 : decode cX6_addPiece 4 = .ok (.iload_n 3, 1) := by decide +kernel
theorem dX6_addPiece_5 : decode cX6_addPiece 5 = .ok (.goto 12, 3) := by decide +kernel
theorem dX6_addPiece_8 : decode cX6_addPiece 8 = .ok (.aload_n 0, 1) := by decide +kernel
theorem dX6_addPiece_9 : decode cX6_addPiece 9 = .ok (.getfield 9, 3) := by decide +kernel
theorem dX6_addPiece_12 : decode cX6_addPiece 12 = .ok (.iload_n 1, 1) := by decide +kernel
theorem dX6_addPiece_13 : decode cX6_addPiece 13 = .ok (.iconst 0, 1) := by decide +kernel
theorem dX6_addPiece_14 : decode cX6_addPiece 14 = .ok (.invokevirtual 51, 3) := by decide +kernel
theorem dX6_addPiece_17 : decode cX6_addPiece 17 = .ok (.istore 5, 2) := by decide +kernel
theorem dX6_addPiece_19 : decode cX6_addPiece 19 = .ok (.iload_n 2, 1) := by decide +kernel
theorem dX6_addPiece_20 : decode cX6_addPiece 20 = .ok (.iconst 1, 1) := by decide +kernel
theorem dX6_addPiece_21 : decode cX6_addPiece 21 = .ok (.if_icmp .ne 7, 3) := by decide +kernel
theorem dX6_addPiece_24 : decode cX6_addPiece 24 = .ok (.iload_n 3, 1) := by decide +kernel
theorem dX6_addPiece_25 : decode cX6_addPiece 25 = .ok (.goto 12, 3) := by decide +kernel
theorem dX6_addPiece_28 : decode cX6_addPiece 28 = .ok (.aload_n 0, 1) := by decide +kernel
theorem dX6_addPiece_29 : decode cX6_addPiece 29 = .ok (.getfield 9, 3) := by decide +kernel
theorem dX6_addPiece_32 : decode cX6_addPiece 32 = .ok (.iload_n 1, 1) := by decide +kernel
theorem dX6_addPiece_33 : decode cX6_addPiece 33 = .ok (.iconst 1, 1) := by decide +kernel
theorem dX6_addPiece_34 : decode cX6_addPiece 34 = .ok (.invokevirtual 51, 3) := by decide +kernel
theorem dX6_addPiece_37 : decode cX6_addPiece 37 = .ok (.istore 6, 2) := by decide +kernel
theorem dX6_addPiece_39 : decode cX6_addPiece 39 = .ok (.iload_n 2, 1) := by decide +kernel
theorem dX6_addPiece_40 : decode cX6_addPiece 40 = .ok (.iconst 2, 1) := by decide +kernel
theorem dX6_addPiece_41 : decode cX6_addPiece 41 = .ok (.if_icmp .ne 7, 3) := by decide +kernel
theorem dX6_addPiece_44 : decode cX6_addPiece 44 = .ok (.iload_n 3, 1) := by decide +kernel
theorem dX6_addPiece_45 : decode cX6_addPiece 45 = .ok (.goto 12, 3) := by decide +kernel
theorem dX6_addPiece_48 : decode cX6_addPiece 48 = .ok (.aload_n 0, 1) := by decide +kernel
theorem dX6_addPiece_49 : decode cX6_addPiece 49 = .ok (.getfield 9, 3) := by decide +kernel
theorem dX6_addPiece_52 : decode cX6_addPiece 52 = .ok (.iload_n 1, 1) := by decide +kernel
theorem dX6_addPiece_53 : decode cX6_addPiece 53 = .ok (.iconst 2, 1) := by decide +kernel
theorem dX6_addPiece_54 : decode cX6_addPiece 54 = .ok (.invokevirtual 51, 3) := by decide +kernel
theorem dX6_addPiece_57 : decode cX6_addPiece 57 = .ok (.istore 7, 2) := by decide +kernel
theorem dX6_addPiece_59 : decode cX6_addPiece 59 = .ok (.aload_n 0, 1) := by decide +kernel
theorem dX6_addPiece_60 : decode cX6_addPiece 60 = .ok (.iload 5, 2) := by decide +kernel
theorem dX6_addPiece_62 : decode cX6_addPiece 62 = .ok (.iload 6, 2) := by decide +kernel
theorem dX6_addPiece_64 : decode cX6_addPiece 64 = .ok (.iload 7, 2) := by decide +kernel
theorem dX6_addPiece_66 : decode cX6_addPiece 66 = .ok (.aload_n 0, 1) := by decide +kernel
theorem dX6_addPiece_67 : decode cX6_addPiece 67 = .ok (.getfield 9, 3) := by decide +kernel
theorem dX6_addPiece_70 : decode cX6_addPiece 70 = .ok (.iload_n 1, 1) := by decide +kernel
theorem dX6_addPiece_71 : decode cX6_addPiece 71 = .ok (.iconst 3, 1) := by decide +kernel
theorem dX6_addPiece_72 : decode cX6_addPiece 72 = .ok (.invokevirtual 51, 3) := by decide +kernel
theorem dX6_addPiece_75 : decode cX6_addPiece 75 = .ok (.invokevirtual 40, 3) := by decide +kernel
theorem dX6_addPiece_78 : decode cX6_addPiece 78 = .ok (.istore 8, 2) := by decide +kernel
theorem dX6_addPiece_80 : decode cX6_addPiece 80 = .ok (.iload 4, 2) := by decide +kernel
theorem dX6_addPiece_82 : decode cX6_addPiece 82 = .ok (.ifCond .eq 24, 3) := by decide +kernel
theorem dX6_addPiece_85 : decode cX6_addPiece 85 = .ok (.aload_n 0, 1) := by decide +kernel
theorem dX6_addPiece_86 : decode cX6_addPiece 86 = .ok (.getfield 15, 3) := by decide +kernel
theorem dX6_addPiece_89 : decode cX6_addPiece 89 = .ok (.invokevirtual 64, 3) := by decide +kernel
theorem dX6_addPiece_92 : decode cX6_addPiece 92 = .ok (.ifCond .eq 14, 3) := by decide +kernel
theorem dX6_addPiece_95 : decode cX6_addPiece 95 = .ok (.aload_n 0, 1) := by decide +kernel
theorem dX6_addPiece_96 : decode cX6_addPiece 96 = .ok (.getfield 9, 3) := by decide +kernel
theorem dX6_addPiece_99 : decode cX6_addPiece 99 = .ok (.iload 8, 2) := by decide +kernel
theorem dX6_addPiece_101 : decode cX6_addPiece 101 = .ok (.iconst 5, 1) := by decide +kernel
theorem dX6_addPiece_102 : decode cX6_addPiece 102 = .ok (.iconst 1, 1) := by decide +kernel
theorem dX6_addPiece_103 : decode cX6_addPiece 103 = .ok (.invokevirtual 44, 3) := by decide +kernel
theorem dX6_addPiece_106 : decode cX6_addPiece 106 = .ok (.aload_n 0, 1) := by decide +kernel
theorem dX6_addPiece_107 : decode cX6_addPiece 107 = .ok (.getfield 9, 3) := by decide +kernel
theorem dX6_addPiece_110 : decode cX6_addPiece 110 = .ok (.iload 8, 2) := by decide +kernel
theorem dX6_addPiece_112 : decode cX6_addPiece 112 = .ok (.bipush 6, 2) := by decide +kernel
theorem dX6_addPiece_114 : decode cX6_addPiece 114 = .ok (.aload_n 0, 1) := by decide +kernel
theorem dX6_addPiece_115 : decode cX6_addPiece 115 = .ok (.getfield 9, 3) := by decide +kernel
theorem dX6_addPiece_118 : decode cX6_addPiece 118 = .ok (.iload_n 1, 1) := by decide +kernel
theorem dX6_addPiece_119 : decode cX6_addPiece 119 = .ok (.bipush 6, 2) := by decide +kernel
theorem dX6_addPiece_121 : decode cX6_addPiece 121 = .ok (.invokevirtual 51, 3) := by decide +kernel
theorem dX6_addPiece_124 : decode cX6_addPiece 124 = .ok (.invokevirtual 44, 3) := by decide +kernel
theorem dX6_addPiece_127 : decode cX6_addPiece 127 = .ok (.aload_n 0, 1) := by decide +kernel
theorem dX6_addPiece_128 : decode cX6_addPiece 128 = .ok (.getfield 9, 3) := by decide +kernel
theorem dX6_addPiece_131 : decode cX6_addPiece 131 = .ok (.iload 8, 2) := by decide +kernel
theorem dX6_addPiece_133 : decode cX6_addPiece 133 = .ok (.bipush 7, 2) := by decide +kernel
theorem dX6_addPiece_135 : decode cX6_addPiece 135 = .ok (.aload_n 0, 1) := by decide +kernel
theorem dX6_addPiece_136 : decode cX6_addPiece 136 = .ok (.getfield 9, 3) := by decide +kernel
theorem dX6_addPiece_139 : decode cX6_addPiece 139 = .ok (.iload_n 1, 1) := by decide +kernel
theorem dX6_addPiece_140 : decode cX6_addPiece 140 = .ok (.bipush 7, 2) := by decide +kernel
theorem dX6_addPiece_142 : decode cX6_addPiece 142 = .ok (.invokevirtual 51, 3) := by decide +kernel
theorem dX6_addPiece_145 : decode cX6_addPiece 145 = .ok (.invokevirtual 44, 3) := by decide +kernel
theorem dX6_addPiece_148 : decode cX6_addPiece 148 = .ok (.aload_n 0, 1) := by decide +kernel
theorem dX6_addPiece_149 : decode cX6_addPiece 149 = .ok (.getfield 9, 3) := by decide +kernel
theorem dX6_addPiece_152 : decode cX6_addPiece 152 = .ok (.iload 8, 2) := by decide +kernel
theorem dX6_addPiece_154 : decode cX6_addPiece 154 = .ok (.bipush 10, 2) := by decide +kernel
theorem dX6_addPiece_156 : decode cX6_addPiece 156 = .ok (.iload_n 1, 1) := by decide +kernel
theorem dX6_addPiece_157 : decode cX6_addPiece 157 = .ok (.invokevirtual 44, 3) := by decide +kernel
theorem dX6_addPiece_160 : decode cX6_addPiece 160 = .ok (.iload 8, 2) := by decide +kernel
theorem dX6_addPiece_162 : decode cX6_addPiece 162 = .ok (.ireturn, 1) := by decide +kernel
theorem dX6_moveBlock_0 : decode cX6_moveBlock 0 = .ok (.aload_n 0, 1) := by decide +kernel
theorem dX6_moveBlock_1 : decode cX6_moveBlock 1 = .ok (.getfield 9, 3) := by decide +kernel
theorem dX6_moveBlock_4 : decode cX6_moveBlock 4 = .ok (.iload_n 1, 1) := by decide +kernel
theorem dX6_moveBlock_5 : decode cX6_moveBlock 5 = .ok (.invokevirtual 48, 3) := by decide +kernel
theorem dX6_moveBlock_8 : decode cX6_moveBlock 8 = .ok (.ifCond .ne 5, 3) := by decide +kernel
theorem dX6_moveBlock_11 : decode cX6_moveBlock 11 = .ok (.iconst (-1), 1) := by decide +kernel
theorem dX6_moveBlock_12 : decode cX6_moveBlock 12 = .ok (.ireturn, 1) := by decide +kernel
theorem dX6_moveBlock_13 : decode cX6_moveBlock 13 = .ok (.aload_n 0, 1) := by decide +kernel
theorem dX6_moveBlock_14 : decode cX6_moveBlock 14 = .ok (.getfield 15, 3) := by decide +kernel
theorem dX6_moveBlock_17 : decode cX6_moveBlock 17 = .ok (.iload_n 1, 1) := by decide +kernel
theorem dX6_moveBlock_18 : decode cX6_moveBlock 18 = .ok (.invokevirtual 68, 3) := by decide +kernel
theorem dX6_moveBlock_21 : decode cX6_moveBlock 21 = .ok (.ifCond .ne 6, 3) := by decide +kernel
theorem dX6_moveBlock_24 : decode cX6_moveBlock 24 = .ok (.bipush (-5), 2) := by decide +kernel
theorem dX6_moveBlock_26 : decode cX6_moveBlock 26 = .ok (.ireturn, 1) := by decide +kernel
theorem dX6_moveBlock_27 : decode cX6_moveBlock 27 = .ok (.aload_n 0, 1) := by decide +kernel
theorem dX6_moveBlock_28 : decode cX6_moveBlock 28 = .ok (.getfield 9, 3) := by decide +kernel
theorem dX6_moveBlock_31 : decode cX6_moveBlock 31 = .ok (.iload_n 1, 1) := by decide +kernel
theorem dX6_moveBlock_32 : decode cX6_moveBlock 32 = .ok (.iconst 5, 1) := by decide +kernel
theorem dX6_moveBlock_33 : decode cX6_moveBlock 33 = .ok (.invokevirtual 51, 3) := by decide +kernel
theorem dX6_moveBlock_36 : decode cX6_moveBlock 36 = .ok (.ifCond .ne 16, 3) := by decide +kernel
theorem dX6_moveBlock_39 : decode cX6_moveBlock 39 = .ok (.aload_n 0, 1) := by decide +kernel
theorem dX6_moveBlock_40 : decode cX6_moveBlock 40 = .ok (.getfield 15, 3) := by decide +kernel
theorem dX6_moveBlock_43 : decode cX6_moveBlock 43 = .ok (.invokevirtual 64, 3) := by decide +kernel
theorem dX6_moveBlock_46 : decode cX6_moveBlock 46 = .ok (.ifCond .ne 6, 3) := by decide +kernel
theorem dX6_moveBlock_49 : decode cX6_moveBlock 49 = .ok (.bipush (-4), 2) := by decide +kernel
theorem dX6_moveBlock_51 : decode cX6_moveBlock 51 = .ok (.ireturn, 1) := by decide +kernel
theorem dX6_moveBlock_52 : decode cX6_moveBlock 52 = .ok (.aload_n 0, 1) := by decide +kernel
theorem dX6_moveBlock_53 : decode cX6_moveBlock 53 = .ok (.getfield 9, 3) := by decide +kernel
theorem dX6_moveBlock_56 : decode cX6_moveBlock 56 = .ok (.iload_n 1, 1) := by decide +kernel
theorem dX6_moveBlock_57 : decode cX6_moveBlock 57 = .ok (.iconst 5, 1) := by decide +kernel
theorem dX6_moveBlock_58 : decode cX6_moveBlock 58 = .ok (.invokevirtual 51, 3) := by decide +kernel
theorem dX6_moveBlock_61 : decode cX6_moveBlock 61 = .ok (.ifCond .ne 7, 3) := by decide +kernel
theorem dX6_moveBlock_64 : decode cX6_moveBlock 64 = .ok (.iconst 1, 1) := by decide +kernel
theorem dX6_moveBlock_65 : decode cX6_moveBlock 65 = .ok (.goto 4, 3) := by decide +kernel
theorem dX6_moveBlock_68 : decode cX6_moveBlock 68 = .ok (.iconst 0, 1) := by decide +kernel
theorem dX6_moveBlock_69 : decode cX6_moveBlock 69 = .ok (.istore_n 2, 1) := by decide +kernel
theorem dX6_moveBlock_70 : decode cX6_moveBlock 70 = .ok (.aload_n 0, 1) := by decide +kernel
theorem dX6_moveBlock_71 : decode cX6_moveBlock 71 = .ok (.getfield 9, 3) := by decide +kernel
theorem dX6_moveBlock_74 : decode cX6_moveBlock 74 = .ok (.iload_n 1, 1) := by decide +kernel
theorem dX6_moveBlock_75 : decode cX6_moveBlock 75 = .ok (.iconst 5, 1) := by decide +kernel
theorem dX6_moveBlock_76 : decode cX6_moveBlock 76 = .ok (.iload_n 2, 1) := by decide +kernel
theorem dX6_moveBlock_77 : decode cX6_moveBlock 77 = .ok (.invokevirtual 44, 3) := by decide +kernel
theorem dX6_moveBlock_80 : decode cX6_moveBlock 80 = .ok (.iload_n 2, 1) := by decide +kernel
theorem dX6_moveBlock_81 : decode cX6_moveBlock 81 = .ok (.ireturn, 1) := by decide +kernel
theorem dX6_takeOrder_0 : decode cX6_takeOrder 0 = .ok (.iload_n 1, 1) := by decide +kernel
theorem dX6_takeOrder_1 : decode cX6_takeOrder 1 = .ok (.invokestatic 36, 3) := by decide +kernel
theorem dX6_takeOrder_4 : decode cX6_takeOrder 4 = .ok (.ifCond .eq 17, 3) := by decide +kernel
theorem dX6_takeOrder_7 : decode cX6_takeOrder 7 = .ok (.iload_n 2, 1) := by decide +kernel
theorem dX6_takeOrder_8 : decode cX6_takeOrder 8 = .ok (.invokestatic 36, 3) := by decide +kernel
theorem dX6_takeOrder_11 : decode cX6_takeOrder 11 = .ok (.ifCond .eq 10, 3) := by decide +kernel
theorem dX6_takeOrder_14 : decode cX6_takeOrder 14 = .ok (.iload_n 3, 1) := by decide +kernel
theorem dX6_takeOrder_15 : decode cX6_takeOrder 15 = .ok (.invokestatic 36, 3) := by decide +kernel
theorem dX6_takeOrder_18 : decode cX6_takeOrder 18 = .ok (.ifCond .ne 6, 3) := by decide +kernel
theorem dX6_takeOrder_21 : decode cX6_takeOrder 21 = .ok (.bipush (-2), 2) := by decide +kernel
theorem dX6_takeOrder_23 : decode cX6_takeOrder 23 = .ok (.ireturn, 1) := by decide +kernel
theorem dX6_takeOrder_24 : decode cX6_takeOrder 24 = .ok (.aload_n 0, 1) := by decide +kernel
theorem dX6_takeOrder_25 : decode cX6_takeOrder 25 = .ok (.getfield 9, 3) := by decide +kernel
theorem dX6_takeOrder_28 : decode cX6_takeOrder 28 = .ok (.bipush 7, 2) := by decide +kernel
theorem dX6_takeOrder_30 : decode cX6_takeOrder 30 = .ok (.invokevirtual 26, 3) := by decide +kernel
theorem dX6_takeOrder_33 : decode cX6_takeOrder 33 = .ok (.istore 4, 2) := by decide +kernel
theorem dX6_takeOrder_35 : decode cX6_takeOrder 35 = .ok (.iload 4, 2) := by decide +kernel
theorem dX6_takeOrder_37 : decode cX6_takeOrder 37 = .ok (.bipush 10, 2) := by decide +kernel
theorem dX6_takeOrder_39 : decode cX6_takeOrder 39 = .ok (.if_icmp .lt 6, 3) := by decide +kernel
theorem dX6_takeOrder_42 : decode cX6_takeOrder 42 = .ok (.bipush (-4), 2) := by decide +kernel
theorem dX6_takeOrder_44 : decode cX6_takeOrder 44 = .ok (.ireturn, 1) := by decide +kernel
theorem dX6_takeOrder_45 : decode cX6_takeOrder 45 = .ok (.aload_n 0, 1) := by decide +kernel
theorem dX6_takeOrder_46 : decode cX6_takeOrder 46 = .ok (.getfield 9, 3) := by decide +kernel
theorem dX6_takeOrder_49 : decode cX6_takeOrder 49 = .ok (.bipush 7, 2) := by decide +kernel
theorem dX6_takeOrder_51 : decode cX6_takeOrder 51 = .ok (.iload 4, 2) := by decide +kernel
theorem dX6_takeOrder_53 : decode cX6_takeOrder 53 = .ok (.iconst 1, 1) := by decide +kernel
theorem dX6_takeOrder_54 : decode cX6_takeOrder 54 = .ok (.iadd, 1) := by decide +kernel
theorem dX6_takeOrder_55 : decode cX6_takeOrder 55 = .ok (.invokevirtual 32, 3) := by decide +kernel
theorem dX6_takeOrder_58 : decode cX6_takeOrder 58 = .ok (.aload_n 0, 1) := by decide +kernel
theorem dX6_takeOrder_59 : decode cX6_takeOrder 59 = .ok (.getfield 9, 3) := by decide +kernel
theorem dX6_takeOrder_62 : decode cX6_takeOrder 62 = .ok (.iload 4, 2) := by decide +kernel
theorem dX6_takeOrder_64 : decode cX6_takeOrder 64 = .ok (.iconst 0, 1) := by decide +kernel
theorem dX6_takeOrder_65 : decode cX6_takeOrder 65 = .ok (.iload_n 1, 1) := by decide +kernel
theorem dX6_takeOrder_66 : decode cX6_takeOrder 66 = .ok (.iload_n 2, 1) := by decide +kernel
theorem dX6_takeOrder_67 : decode cX6_takeOrder 67 = .ok (.iload_n 3, 1) := by decide +kernel
theorem dX6_takeOrder_68 : decode cX6_takeOrder 68 = .ok (.invokestatic 71, 3) := by decide +kernel
theorem dX6_takeOrder_71 : decode cX6_takeOrder 71 = .ok (.invokevirtual 75, 3) := by decide +kernel
theorem dX6_takeOrder_74 : decode cX6_takeOrder 74 = .ok (.aload_n 0, 1) := by decide +kernel
theorem dX6_takeOrder_75 : decode cX6_takeOrder 75 = .ok (.getfield 9, 3) := by decide +kernel
theorem dX6_takeOrder_78 : decode cX6_takeOrder 78 = .ok (.iload 4, 2) := by decide +kernel
theorem dX6_takeOrder_80 : decode cX6_takeOrder 80 = .ok (.iconst 1, 1) := by decide +kernel
theorem dX6_takeOrder_81 : decode cX6_takeOrder 81 = .ok (.iload_n 1, 1) := by decide +kernel
theorem dX6_takeOrder_82 : decode cX6_takeOrder 82 = .ok (.iload_n 2, 1) := by decide +kernel
theorem dX6_takeOrder_83 : decode cX6_takeOrder 83 = .ok (.iload_n 3, 1) := by decide +kernel
theorem dX6_takeOrder_84 : decode cX6_takeOrder 84 = .ok (.invokestatic 78, 3) := by decide +kernel
theorem dX6_takeOrder_87 : decode cX6_takeOrder 87 = .ok (.invokevirtual 75, 3) := by decide +kernel
theorem dX6_takeOrder_90 : decode cX6_takeOrder 90 = .ok (.aload_n 0, 1) := by decide +kernel
theorem dX6_takeOrder_91 : decode cX6_takeOrder 91 = .ok (.getfield 9, 3) := by decide +kernel
theorem dX6_takeOrder_94 : decode cX6_takeOrder 94 = .ok (.iload 4, 2) := by decide +kernel
theorem dX6_takeOrder_96 : decode cX6_takeOrder 96 = .ok (.iconst 2, 1) := by decide +kernel
theorem dX6_takeOrder_97 : decode cX6_takeOrder 97 = .ok (.iload_n 1, 1) := by decide +kernel
theorem dX6_takeOrder_98 : decode cX6_takeOrder 98 = .ok (.iload_n 2, 1) := by decide +kernel
theorem dX6_takeOrder_99 : decode cX6_takeOrder 99 = .ok (.iload_n 3, 1) := by decide +kernel
theorem dX6_takeOrder_100 : decode cX6_takeOrder 100 = .ok (.invokestatic 81, 3) := by decide +kernel
theorem dX6_takeOrder_103 : decode cX6_takeOrder 103 = .ok (.invokevirtual 75, 3) := by decide +kernel
theorem dX6_takeOrder_106 : decode cX6_takeOrder 106 = .ok (.aload_n 0, 1) := by decide +kernel
theorem dX6_takeOrder_107 : decode cX6_takeOrder 107 = .ok (.getfield 9, 3) := by decide +kernel
theorem dX6_takeOrder_110 : decode cX6_takeOrder 110 = .ok (.iload 4, 2) := by decide +kernel
theorem dX6_takeOrder_112 : decode cX6_takeOrder 112 = .ok (.iconst 3, 1) := by decide +kernel
theorem dX6_takeOrder_113 : decode cX6_takeOrder 113 = .ok (.iconst 0, 1) := by decide +kernel
theorem dX6_takeOrder_114 : decode cX6_takeOrder 114 = .ok (.invokevirtual 75, 3) := by decide +kernel
theorem dX6_takeOrder_117 : decode cX6_takeOrder 117 = .ok (.aload_n 0, 1) := by decide +kernel
theorem dX6_takeOrder_118 : decode cX6_takeOrder 118 = .ok (.getfield 9, 3) := by decide +kernel
theorem dX6_takeOrder_121 : decode cX6_takeOrder 121 = .ok (.iload 4, 2) := by decide +kernel
theorem dX6_takeOrder_123 : decode cX6_takeOrder 123 = .ok (.iconst 4, 1) := by decide +kernel
theorem dX6_takeOrder_124 : decode cX6_takeOrder 124 = .ok (.bipush (-6), 2) := by decide +kernel
theorem dX6_takeOrder_126 : decode cX6_takeOrder 126 = .ok (.invokevirtual 75, 3) := by decide +kernel
theorem dX6_takeOrder_129 : decode cX6_takeOrder 129 = .ok (.aload_n 0, 1) := by decide +kernel
theorem dX6_takeOrder_130 : decode cX6_takeOrder 130 = .ok (.getfield 9, 3) := by decide +kernel
theorem dX6_takeOrder_133 : decode cX6_takeOrder 133 = .ok (.iload 4, 2) := by decide +kernel
theorem dX6_takeOrder_135 : decode cX6_takeOrder 135 = .ok (.iconst 5, 1) := by decide +kernel
theorem dX6_takeOrder_136 : decode cX6_takeOrder 136 = .ok (.bipush (-6), 2) := by decide +kernel
theorem dX6_takeOrder_138 : decode cX6_takeOrder 138 = .ok (.invokevirtual 75, 3) := by decide +kernel
theorem dX6_takeOrder_141 : decode cX6_takeOrder 141 = .ok (.iload 4, 2) := by decide +kernel
theorem dX6_takeOrder_143 : decode cX6_takeOrder 143 = .ok (.ireturn, 1) := by decide +kernel
theorem dX6_giveBlock_0 : decode cX6_giveBlock 0 = .ok (.aload_n 0, 1) := by decide +kernel
theorem dX6_giveBlock_1 : decode cX6_giveBlock 1 = .ok (.getfield 9, 3) := by decide +kernel
theorem dX6_giveBlock_4 : decode cX6_giveBlock 4 = .ok (.iload_n 1, 1) := by decide +kernel
theorem dX6_giveBlock_5 : decode cX6_giveBlock 5 = .ok (.invokevirtual 84, 3) := by decide +kernel
theorem dX6_giveBlock_8 : decode cX6_giveBlock 8 = .ok (.ifCond .eq 14, 3) := by decide +kernel
theorem dX6_giveBlock_11 : decode cX6_giveBlock 11 = .ok (.aload_n 0, 1) := by decide +kernel
theorem dX6_giveBlock_12 : decode cX6_giveBlock 12 = .ok (.getfield 9, 3) := by decide +kernel
theorem dX6_giveBlock_15 : decode cX6_giveBlock 15 = .ok (.iload_n 2, 1) := by decide +kernel
theorem dX6_giveBlock_16 : decode cX6_giveBlock 16 = .ok (.invokevirtual 48, 3) := by decide +kernel
theorem dX6_giveBlock_19 : decode cX6_giveBlock 19 = .ok (.ifCond .ne 5, 3) := by decide +kernel
theorem dX6_giveBlock_22 : decode cX6_giveBlock 22 = .ok (.iconst (-1), 1) := by decide +kernel
theorem dX6_giveBlock_23 : decode cX6_giveBlock 23 = .ok (.ireturn, 1) := by decide +kernel
theorem dX6_giveBlock_24 : decode cX6_giveBlock 24 = .ok (.aload_n 0, 1) := by decide +kernel
theorem dX6_giveBlock_25 : decode cX6_giveBlock 25 = .ok (.getfield 15, 3) := by decide +kernel
theorem dX6_giveBlock_28 : decode cX6_giveBlock 28 = .ok (.iload_n 1, 1) := by decide +kernel
theorem dX6_giveBlock_29 : decode cX6_giveBlock 29 = .ok (.iload_n 2, 1) := by decide +kernel
theorem dX6_giveBlock_30 : decode cX6_giveBlock 30 = .ok (.invokevirtual 87, 3) := by decide +kernel
theorem dX6_giveBlock_33 : decode cX6_giveBlock 33 = .ok (.istore_n 3, 1) := by decide +kernel
theorem dX6_giveBlock_34 : decode cX6_giveBlock 34 = .ok (.iload_n 3, 1) := by decide +kernel
theorem dX6_giveBlock_35 : decode cX6_giveBlock 35 = .ok (.bipush (-6), 2) := by decide +kernel
theorem dX6_giveBlock_37 : decode cX6_giveBlock 37 = .ok (.if_icmp .ne 6, 3) := by decide +kernel
theorem dX6_giveBlock_40 : decode cX6_giveBlock 40 = .ok (.bipush (-5), 2) := by decide +kernel
theorem dX6_giveBlock_42 : decode cX6_giveBlock 42 = .ok (.ireturn, 1) := by decide +kernel
theorem dX6_giveBlock_43 : decode cX6_giveBlock 43 = .ok (.aload_n 0, 1) := by decide +kernel
theorem dX6_giveBlock_44 : decode cX6_giveBlock 44 = .ok (.getfield 9, 3) := by decide +kernel
theorem dX6_giveBlock_47 : decode cX6_giveBlock 47 = .ok (.iload_n 1, 1) := by decide +kernel
theorem dX6_giveBlock_48 : decode cX6_giveBlock 48 = .ok (.iconst 3, 1) := by decide +kernel
theorem dX6_giveBlock_49 : decode cX6_giveBlock 49 = .ok (.iconst 1, 1) := by decide +kernel
theorem dX6_giveBlock_50 : decode cX6_giveBlock 50 = .ok (.invokevirtual 75, 3) := by decide +kernel
theorem dX6_giveBlock_53 : decode cX6_giveBlock 53 = .ok (.aload_n 0, 1) := by decide +kernel
theorem dX6_giveBlock_54 : decode cX6_giveBlock 54 = .ok (.getfield 9, 3) := by decide +kernel
theorem dX6_giveBlock_57 : decode cX6_giveBlock 57 = .ok (.iload_n 1, 1) := by decide +kernel
theorem dX6_giveBlock_58 : decode cX6_giveBlock 58 = .ok (.iconst 4, 1) := by decide +kernel
theorem dX6_giveBlock_59 : decode cX6_giveBlock 59 = .ok (.iload_n 2, 1) := by decide +kernel
theorem dX6_giveBlock_60 : decode cX6_giveBlock 60 = .ok (.invokevirtual 75, 3) := by decide +kernel
theorem dX6_giveBlock_63 : decode cX6_giveBlock 63 = .ok (.aload_n 0, 1) := by decide +kernel
theorem dX6_giveBlock_64 : decode cX6_giveBlock 64 = .ok (.getfield 9, 3) := by decide +kernel
theorem dX6_giveBlock_67 : decode cX6_giveBlock 67 = .ok (.iload_n 2, 1) := by decide +kernel
theorem dX6_giveBlock_68 : decode cX6_giveBlock 68 = .ok (.bipush 8, 2) := by decide +kernel
theorem dX6_giveBlock_70 : decode cX6_giveBlock 70 = .ok (.iload_n 1, 1) := by decide +kernel
theorem dX6_giveBlock_71 : decode cX6_giveBlock 71 = .ok (.invokevirtual 44, 3) := by decide +kernel
theorem dX6_giveBlock_74 : decode cX6_giveBlock 74 = .ok (.iload_n 3, 1) := by decide +kernel
theorem dX6_giveBlock_75 : decode cX6_giveBlock 75 = .ok (.ireturn, 1) := by decide +kernel
theorem dX6_takeBlockAway_0 : decode cX6_takeBlockAway 0 = .ok (.aload_n 0, 1) := by decide +kernel
theorem dX6_takeBlockAway_1 : decode cX6_takeBlockAway 1 = .ok (.getfield 9, 3) := by decide +kernel
theorem dX6_takeBlockAway_4 : decode cX6_takeBlockAway 4 = .ok (.iload_n 1, 1) := by decide +kernel
theorem dX6_takeBlockAway_5 : decode cX6_takeBlockAway 5 = .ok (.invokevirtual 84, 3) := by decide +kernel
theorem dX6_takeBlockAway_8 : decode cX6_takeBlockAway 8 = .ok (.ifCond .ne 5, 3) := by decide +kernel
theorem dX6_takeBlockAway_11 : decode cX6_takeBlockAway 11 = .ok (.iconst (-1), 1) := by decide +kernel
theorem dX6_takeBlockAway_12 : decode cX6_takeBlockAway 12 = .ok (.ireturn, 1) := by decide +kernel
theorem dX6_takeBlockAway_13 : decode cX6_takeBlockAway 13 = .ok (.aload_n 0, 1) := by decide +kernel
theorem dX6_takeBlockAway_14 : decode cX6_takeBlockAway 14 = .ok (.getfield 9, 3) := by decide +kernel
theorem dX6_takeBlockAway_17 : decode cX6_takeBlockAway 17 = .ok (.iload_n 1, 1) := by decide +kernel
theorem dX6_takeBlockAway_18 : decode cX6_takeBlockAway 18 = .ok (.iconst 3, 1) := by decide +kernel
theorem dX6_takeBlockAway_19 : decode cX6_takeBlockAway 19 = .ok (.invokevirtual 90, 3) := by decide +kernel
theorem dX6_takeBlockAway_22 : decode cX6_takeBlockAway 22 = .ok (.iconst 1, 1) := by decide +kernel
theorem dX6_takeBlockAway_23 : decode cX6_takeBlockAway 23 = .ok (.if_icmp .eq 6, 3) := by decide +kernel
theorem dX6_takeBlockAway_26 : decode cX6_takeBlockAway 26 = .ok (.bipush (-5), 2) := by decide +kernel
theorem dX6_takeBlockAway_28 : decode cX6_takeBlockAway 28 = .ok (.ireturn, 1) := by decide +kernel
theorem dX6_takeBlockAway_29 : decode cX6_takeBlockAway 29 = .ok (.aload_n 0, 1) := by decide +kernel
theorem dX6_takeBlockAway_30 : decode cX6_takeBlockAway 30 = .ok (.getfield 9, 3) := by decide +kernel
theorem dX6_takeBlockAway_33 : decode cX6_takeBlockAway 33 = .ok (.iload_n 1, 1) := by decide +kernel
theorem dX6_takeBlockAway_34 : decode cX6_takeBlockAway 34 = .ok (.iconst 4, 1) := by decide +kernel
theorem dX6_takeBlockAway_35 : decode cX6_takeBlockAway 35 = .ok (.invokevirtual 90, 3) := by decide +kernel
theorem dX6_takeBlockAway_38 : decode cX6_takeBlockAway 38 = .ok (.istore_n 2, 1) := by decide +kernel
theorem dX6_takeBlockAway_39 : decode cX6_takeBlockAway 39 = .ok (.aload_n 0, 1) := by decide +kernel
theorem dX6_takeBlockAway_40 : decode cX6_takeBlockAway 40 = .ok (.getfield 9, 3) := by decide +kernel
theorem dX6_takeBlockAway_43 : decode cX6_takeBlockAway 43 = .ok (.iload_n 1, 1) := by decide +kernel
theorem dX6_takeBlockAway_44 : decode cX6_takeBlockAway 44 = .ok (.iconst 3, 1) := by decide +kernel
theorem dX6_takeBlockAway_45 : decode cX6_takeBlockAway 45 = .ok (.iconst 0, 1) := by decide +kernel
theorem dX6_takeBlockAway_46 : decode cX6_takeBlockAway 46 = .ok (.invokevirtual 75, 3) := by decide +kernel
theorem dX6_takeBlockAway_49 : decode cX6_takeBlockAway 49 = .ok (.aload_n 0, 1) := by decide +kernel
theorem dX6_takeBlockAway_50 : decode cX6_takeBlockAway 50 = .ok (.getfield 9, 3) := by decide +kernel
theorem dX6_takeBlockAway_53 : decode cX6_takeBlockAway 53 = .ok (.iload_n 1, 1) := by decide +kernel
theorem dX6_takeBlockAway_54 : decode cX6_takeBlockAway 54 = .ok (.iconst 4, 1) := by decide +kernel
theorem dX6_takeBlockAway_55 : decode cX6_takeBlockAway 55 = .ok (.bipush (-6), 2) := by decide +kernel
theorem dX6_takeBlockAway_57 : decode cX6_takeBlockAway 57 = .ok (.invokevirtual 75, 3) := by decide +kernel
theorem dX6_takeBlockAway_60 : decode cX6_takeBlockAway 60 = .ok (.aload_n 0, 1) := by decide +kernel
theorem dX6_takeBlockAway_61 : decode cX6_takeBlockAway 61 = .ok (.getfield 9, 3) := by decide +kernel
theorem dX6_takeBlockAway_64 : decode cX6_takeBlockAway 64 = .ok (.iload_n 2, 1) := by decide +kernel
theorem dX6_takeBlockAway_65 : decode cX6_takeBlockAway 65 = .ok (.bipush 8, 2) := by decide +kernel
theorem dX6_takeBlockAway_67 : decode cX6_takeBlockAway 67 = .ok (.bipush (-6), 2) := by decide +kernel
theorem dX6_takeBlockAway_69 : decode cX6_takeBlockAway 69 = .ok (.invokevirtual 44, 3) := by decide +kernel
theorem dX6_takeBlockAway_72 : decode cX6_takeBlockAway 72 = .ok (.iload_n 2, 1) := by decide +kernel
theorem dX6_takeBlockAway_73 : decode cX6_takeBlockAway 73 = .ok (.ireturn, 1) := by decide +kernel
theorem dX6_isLimit_0 : decode cX6_isLimit 0 = .ok (.iload_n 0, 1) := by decide +kernel
theorem dX6_isLimit_1 : decode cX6_isLimit 1 = .ok (.bipush 100, 2) := by decide +kernel
theorem dX6_isLimit_3 : decode cX6_isLimit 3 = .ok (.if_icmp .lt 14, 3) := by decide +kernel
theorem dX6_isLimit_6 : decode cX6_isLimit 6 = .ok (.iload_n 0, 1) := by decide +kernel
theorem dX6_isLimit_7 : decode cX6_isLimit 7 = .ok (.sipush 30000, 3) := by decide +kernel
theorem dX6_isLimit_10 : decode cX6_isLimit 10 = .ok (.if_icmp .gt 7, 3) := by decide +kernel
theorem dX6_isLimit_13 : decode cX6_isLimit 13 = .ok (.iconst 1, 1) := by decide +kernel
theorem dX6_isLimit_14 : decode cX6_isLimit 14 = .ok (.goto 4, 3) := by decide +kernel
theorem dX6_isLimit_17 : decode cX6_isLimit 17 = .ok (.iconst 0, 1) := by decide +kernel
theorem dX6_isLimit_18 : decode cX6_isLimit 18 = .ok (.ireturn, 1) := by decide +kernel
theorem dX6_changeLimits_0 : decode cX6_changeLimits 0 = .ok (.iload_n 1, 1) := by decide +kernel
theorem dX6_changeLimits_1 : decode cX6_changeLimits 1 = .ok (.invokestatic 93, 3) := by decide +kernel
theorem dX6_changeLimits_4 : decode cX6_changeLimits 4 = .ok (.ifCond .ne 5, 3) := by decide +kernel
theorem dX6_changeLimits_7 : decode cX6_changeLimits 7 = .ok (.iconst (-1), 1) := by decide +kernel
theorem dX6_changeLimits_8 : decode cX6_changeLimits 8 = .ok (.ireturn, 1) := by decide +kernel
theorem dX6_changeLimits_9 : decode cX6_changeLimits 9 = .ok (.iload_n 2, 1) := by decide +kernel
theorem dX6_changeLimits_10 : decode cX6_changeLimits 10 = .ok (.invokestatic 96, 3) := by decide +kernel
theorem dX6_changeLimits_13 : decode cX6_changeLimits 13 = .ok (.ifCond .eq 18, 3) := by decide +kernel
theorem dX6_changeLimits_16 : decode cX6_changeLimits 16 = .ok (.iload_n 3, 1) := by decide +kernel
theorem dX6_changeLimits_17 : decode cX6_changeLimits 17 = .ok (.invokestatic 96, 3) := by decide +kernel
theorem dX6_changeLimits_20 : decode cX6_changeLimits 20 = .ok (.ifCond .eq 11, 3) := by decide +kernel
theorem dX6_changeLimits_23 : decode cX6_changeLimits 23 = .ok (.iload 4, 2) := by decide +kernel
theorem dX6_changeLimits_25 : decode cX6_changeLimits 25 = .ok (.invokestatic 96, 3) := by decide +kernel
theorem dX6_changeLimits_28 : decode cX6_changeLimits 28 = .ok (.ifCond .ne 6, 3) := by decide +kernel
theorem dX6_changeLimits_31 : decode cX6_changeLimits 31 = .ok (.bipush (-2), 2) := by decide +kernel
theorem dX6_changeLimits_33 : decode cX6_changeLimits 33 = .ok (.ireturn, 1) := by decide +kernel
theorem dX6_changeLimits_34 : decode cX6_changeLimits 34 = .ok (.aload_n 0, 1) := by decide +kernel
theorem dX6_changeLimits_35 : decode cX6_changeLimits 35 = .ok (.getfield 9, 3) := by decide +kernel
theorem dX6_changeLimits_38 : decode cX6_changeLimits 38 = .ok (.iload_n 1, 1) := by decide +kernel
theorem dX6_changeLimits_39 : decode cX6_changeLimits 39 = .ok (.iconst 0, 1) := by decide +kernel
theorem dX6_changeLimits_40 : decode cX6_changeLimits 40 = .ok (.iload_n 2, 1) := by decide +kernel
theorem dX6_changeLimits_41 : decode cX6_changeLimits 41 = .ok (.invokevirtual 99, 3) := by decide +kernel
theorem dX6_changeLimits_44 : decode cX6_changeLimits 44 = .ok (.aload_n 0, 1) := by decide +kernel
theorem dX6_changeLimits_45 : decode cX6_changeLimits 45 = .ok (.getfield 9, 3) := by decide +kernel
theorem dX6_changeLimits_48 : decode cX6_changeLimits 48 = .ok (.iload_n 1, 1) := by decide +kernel
theorem dX6_changeLimits_49 : decode cX6_changeLimits 49 = .ok (.iconst 1, 1) := by decide +kernel
theorem dX6_changeLimits_50 : decode cX6_changeLimits 50 = .ok (.iload_n 3, 1) := by decide +kernel
theorem dX6_changeLimits_51 : decode cX6_changeLimits 51 = .ok (.invokevirtual 99, 3) := by decide +kernel
theorem dX6_changeLimits_54 : decode cX6_changeLimits 54 = .ok (.aload_n 0, 1) := by decide +kernel
theorem dX6_changeLimits_55 : decode cX6_changeLimits 55 = .ok (.getfield 9, 3) := by decide +kernel
theorem dX6_changeLimits_58 : decode cX6_changeLimits 58 = .ok (.iload_n 1, 1) := by decide +kernel
theorem dX6_changeLimits_59 : decode cX6_changeLimits 59 = .ok (.iconst 2, 1) := by decide +kernel
theorem dX6_changeLimits_60 : decode cX6_changeLimits 60 = .ok (.iload 4, 2) := by decide +kernel
theorem dX6_changeLimits_62 : decode cX6_changeLimits 62 = .ok (.invokevirtual 99, 3) := by decide +kernel
theorem dX6_changeLimits_65 : decode cX6_changeLimits 65 = .ok (.iconst 1, 1) := by decide +kernel
theorem dX6_changeLimits_66 : decode cX6_changeLimits 66 = .ok (.ireturn, 1) := by decide +kernel
theorem dX6_loadBlock_0 : decode cX6_loadBlock 0 = .ok (.aload_n 0, 1) := by decide +kernel
theorem dX6_loadBlock_1 : decode cX6_loadBlock 1 = .ok (.getfield 9, 3) := by decide +kernel
theorem dX6_loadBlock_4 : decode cX6_loadBlock 4 = .ok (.iload_n 1, 1) := by decide +kernel
theorem dX6_loadBlock_5 : decode cX6_loadBlock 5 = .ok (.invokevirtual 48, 3) := by decide +kernel
theorem dX6_loadBlock_8 : decode cX6_loadBlock 8 = .ok (.ifCond .eq 19, 3) := by decide +kernel
theorem dX6_loadBlock_11 : decode cX6_loadBlock 11 = .ok (.iload_n 2, 1) := by decide +kernel
theorem dX6_loadBlock_12 : decode cX6_loadBlock 12 = .ok (.invokestatic 93, 3) := by decide +kernel
theorem dX6_loadBlock_15 : decode cX6_loadBlock 15 = .ok (.ifCond .eq 12, 3) := by decide +kernel
theorem dX6_loadBlock_18 : decode cX6_loadBlock 18 = .ok (.iload_n 3, 1) := by decide +kernel
theorem dX6_loadBlock_19 : decode cX6_loadBlock 19 = .ok (.ifCond .lt 8, 3) := by decide +kernel
theorem dX6_loadBlock_22 : decode cX6_loadBlock 22 = .ok (.iload_n 3, 1) := by decide +kernel
theorem dX6_loadBlock_23 : decode cX6_loadBlock 23 = .ok (.iconst 5, 1) := by decide +kernel
theorem dX6_loadBlock_24 : decode cX6_loadBlock 24 = .ok (.if_icmp .lt 5, 3) := by decide +kernel
theorem dX6_loadBlock_27 : decode cX6_loadBlock 27 = .ok (.iconst (-1), 1) := by decide +kernel
theorem dX6_loadBlock_28 : decode cX6_loadBlock 28 = .ok (.ireturn, 1) := by decide +kernel
theorem dX6_loadBlock_29 : decode cX6_loadBlock 29 = .ok (.aload_n 0, 1) := by decide +kernel
theorem dX6_loadBlock_30 : decode cX6_loadBlock 30 = .ok (.getfield 15, 3) := by decide +kernel
theorem dX6_loadBlock_33 : decode cX6_loadBlock 33 = .ok (.iload_n 1, 1) := by decide +kernel
theorem dX6_loadBlock_34 : decode cX6_loadBlock 34 = .ok (.invokevirtual 68, 3) := by decide +kernel
theorem dX6_loadBlock_37 : decode cX6_loadBlock 37 = .ok (.ifCond .eq 15, 3) := by decide +kernel
theorem dX6_loadBlock_40 : decode cX6_loadBlock 40 = .ok (.aload_n 0, 1) := by decide +kernel
theorem dX6_loadBlock_41 : decode cX6_loadBlock 41 = .ok (.getfield 15, 3) := by decide +kernel
theorem dX6_loadBlock_44 : decode cX6_loadBlock 44 = .ok (.iload_n 2, 1) := by decide +kernel
theorem dX6_loadBlock_45 : decode cX6_loadBlock 45 = .ok (.iload_n 3, 1) := by decide +kernel
theorem dX6_loadBlock_46 : decode cX6_loadBlock 46 = .ok (.invokevirtual 102, 3) := by decide +kernel
theorem dX6_loadBlock_49 : decode cX6_loadBlock 49 = .ok (.ifCond .ne 6, 3) := by decide +kernel
theorem dX6_loadBlock_52 : decode cX6_loadBlock 52 = .ok (.bipush (-5), 2) := by decide +kernel
theorem dX6_loadBlock_54 : decode cX6_loadBlock 54 = .ok (.ireturn, 1) := by decide +kernel
theorem dX6_loadBlock_55 : decode cX6_loadBlock 55 = .ok (.aload_n 0, 1) := by decide +kernel
theorem dX6_loadBlock_56 : decode cX6_loadBlock 56 = .ok (.getfield 9, 3) := by decide +kernel
theorem dX6_loadBlock_59 : decode cX6_loadBlock 59 = .ok (.iload_n 1, 1) := by decide +kernel
theorem dX6_loadBlock_60 : decode cX6_loadBlock 60 = .ok (.iconst 5, 1) := by decide +kernel
theorem dX6_loadBlock_61 : decode cX6_loadBlock 61 = .ok (.iconst 2, 1) := by decide +kernel
theorem dX6_loadBlock_62 : decode cX6_loadBlock 62 = .ok (.invokevirtual 44, 3) := by decide +kernel
theorem dX6_loadBlock_65 : decode cX6_loadBlock 65 = .ok (.aload_n 0, 1) := by decide +kernel
theorem dX6_loadBlock_66 : decode cX6_loadBlock 66 = .ok (.getfield 9, 3) := by decide +kernel
theorem dX6_loadBlock_69 : decode cX6_loadBlock 69 = .ok (.iload_n 1, 1) := by decide +kernel
theorem dX6_loadBlock_70 : decode cX6_loadBlock 70 = .ok (.bipush 9, 2) := by decide +kernel
theorem dX6_loadBlock_72 : decode cX6_loadBlock 72 = .ok (.iconst 5, 1) := by decide +kernel
theorem dX6_loadBlock_73 : decode cX6_loadBlock 73 = .ok (.iload_n 2, 1) := by decide +kernel
theorem dX6_loadBlock_74 : decode cX6_loadBlock 74 = .ok (.imul, 1) := by decide +kernel
theorem dX6_loadBlock_75 : decode cX6_loadBlock 75 = .ok (.iload_n 3, 1) := by decide +kernel
theorem dX6_loadBlock_76 : decode cX6_loadBlock 76 = .ok (.iadd, 1) := by decide +kernel
theorem dX6_loadBlock_77 : decode cX6_loadBlock 77 = .ok (.invokevirtual 44, 3) := by decide +kernel
theorem dX6_loadBlock_80 : decode cX6_loadBlock 80 = .ok (.aload_n 0, 1) := by decide +kernel
theorem dX6_loadBlock_81 : decode cX6_loadBlock 81 = .ok (.getfield 15, 3) := by decide +kernel
theorem dX6_loadBlock_84 : decode cX6_loadBlock 84 = .ok (.iload_n 2, 1) := by decide +kernel
theorem dX6_loadBlock_85 : decode cX6_loadBlock 85 = .ok (.invokevirtual 106, 3) := by decide +kernel
theorem dX6_loadBlock_88 : decode cX6_loadBlock 88 = .ok (.ireturn, 1) := by decide +kernel
theorem dX6_unloadBlock_0 : decode cX6_unloadBlock 0 = .ok (.aload_n 0, 1) := by decide +kernel
theorem dX6_unloadBlock_1 : decode cX6_unloadBlock 1 = .ok (.getfield 9, 3) := by decide +kernel
theorem dX6_unloadBlock_4 : decode cX6_unloadBlock 4 = .ok (.iload_n 1, 1) := by decide +kernel
theorem dX6_unloadBlock_5 : decode cX6_unloadBlock 5 = .ok (.invokevirtual 48, 3) := by decide +kernel
theorem dX6_unloadBlock_8 : decode cX6_unloadBlock 8 = .ok (.ifCond .ne 5, 3) := by decide +kernel
theorem dX6_unloadBlock_11 : decode cX6_unloadBlock 11 = .ok (.iconst (-1), 1) := by decide +kernel
theorem dX6_unloadBlock_12 : decode cX6_unloadBlock 12 = .ok (.ireturn, 1) := by decide +kernel
theorem dX6_unloadBlock_13 : decode cX6_unloadBlock 13 = .ok (.aload_n 0, 1) := by decide +kernel
theorem dX6_unloadBlock_14 : decode cX6_unloadBlock 14 = .ok (.getfield 9, 3) := by decide +kernel
theorem dX6_unloadBlock_17 : decode cX6_unloadBlock 17 = .ok (.iload_n 1, 1) := by decide +kernel
theorem dX6_unloadBlock_18 : decode cX6_unloadBlock 18 = .ok (.iconst 5, 1) := by decide +kernel
theorem dX6_unloadBlock_19 : decode cX6_unloadBlock 19 = .ok (.invokevirtual 51, 3) := by decide +kernel
theorem dX6_unloadBlock_22 : decode cX6_unloadBlock 22 = .ok (.iconst 2, 1) := by decide +kernel
theorem dX6_unloadBlock_23 : decode cX6_unloadBlock 23 = .ok (.if_icmp .eq 6, 3) := by decide +kernel
theorem dX6_unloadBlock_26 : decode cX6_unloadBlock 26 = .ok (.bipush (-5), 2) := by decide +kernel
theorem dX6_unloadBlock_28 : decode cX6_unloadBlock 28 = .ok (.ireturn, 1) := by decide +kernel
theorem dX6_unloadBlock_29 : decode cX6_unloadBlock 29 = .ok (.aload_n 0, 1) := by decide +kernel
theorem dX6_unloadBlock_30 : decode cX6_unloadBlock 30 = .ok (.getfield 9, 3) := by decide +kernel
theorem dX6_unloadBlock_33 : decode cX6_unloadBlock 33 = .ok (.iload_n 1, 1) := by decide +kernel
theorem dX6_unloadBlock_34 : decode cX6_unloadBlock 34 = .ok (.bipush 9, 2) := by decide +kernel
theorem dX6_unloadBlock_36 : decode cX6_unloadBlock 36 = .ok (.invokevirtual 51, 3) := by decide +kernel
theorem dX6_unloadBlock_39 : decode cX6_unloadBlock 39 = .ok (.iconst 5, 1) := by decide +kernel
theorem dX6_unloadBlock_40 : decode cX6_unloadBlock 40 = .ok (.idiv, 1) := by decide +kernel
theorem dX6_unloadBlock_41 : decode cX6_unloadBlock 41 = .ok (.istore_n 2, 1) := by decide +kernel
theorem dX6_unloadBlock_42 : decode cX6_unloadBlock 42 = .ok (.aload_n 0, 1) := by decide +kernel
theorem dX6_unloadBlock_43 : decode cX6_unloadBlock 43 = .ok (.getfield 9, 3) := by decide +kernel
theorem dX6_unloadBlock_46 : decode cX6_unloadBlock 46 = .ok (.iload_n 1, 1) := by decide +kernel
theorem dX6_unloadBlock_47 : decode cX6_unloadBlock 47 = .ok (.iconst 5, 1) := by decide +kernel
theorem dX6_unloadBlock_48 : decode cX6_unloadBlock 48 = .ok (.iconst 0, 1) := by decide +kernel
theorem dX6_unloadBlock_49 : decode cX6_unloadBlock 49 = .ok (.invokevirtual 44, 3) := by decide +kernel
theorem dX6_unloadBlock_52 : decode cX6_unloadBlock 52 = .ok (.aload_n 0, 1) := by decide +kernel
theorem dX6_unloadBlock_53 : decode cX6_unloadBlock 53 = .ok (.getfield 9, 3) := by decide +kernel
theorem dX6_unloadBlock_56 : decode cX6_unloadBlock 56 = .ok (.iload_n 1, 1) := by decide +kernel
theorem dX6_unloadBlock_57 : decode cX6_unloadBlock 57 = .ok (.bipush 9, 2) := by decide +kernel
theorem dX6_unloadBlock_59 : decode cX6_unloadBlock 59 = .ok (.bipush (-6), 2) := by decide +kernel
theorem dX6_unloadBlock_61 : decode cX6_unloadBlock 61 = .ok (.invokevirtual 44, 3) := by decide +kernel
theorem dX6_unloadBlock_64 : decode cX6_unloadBlock 64 = .ok (.aload_n 0, 1) := by decide +kernel
theorem dX6_unloadBlock_65 : decode cX6_unloadBlock 65 = .ok (.getfield 15, 3) := by decide +kernel
theorem dX6_unloadBlock_68 : decode cX6_unloadBlock 68 = .ok (.iload_n 2, 1) := by decide +kernel
theorem dX6_unloadBlock_69 : decode cX6_unloadBlock 69 = .ok (.invokevirtual 106, 3) := by decide +kernel
theorem dX6_unloadBlock_72 : decode cX6_unloadBlock 72 = .ok (.ireturn, 1) := by decide +kernel
theorem dX6_sendLorry_0 : decode cX6_sendLorry 0 = .ok (.iload_n 1, 1) := by decide +kernel
theorem dX6_sendLorry_1 : decode cX6_sendLorry 1 = .ok (.invokestatic 93, 3) := by decide +kernel
theorem dX6_sendLorry_4 : decode cX6_sendLorry 4 = .ok (.ifCond .ne 5, 3) := by decide +kernel
theorem dX6_sendLorry_7 : decode cX6_sendLorry 7 = .ok (.iconst (-1), 1) := by decide +kernel
theorem dX6_sendLorry_8 : decode cX6_sendLorry 8 = .ok (.ireturn, 1) := by decide +kernel
theorem dX6_sendLorry_9 : decode cX6_sendLorry 9 = .ok (.aload_n 0, 1) := by decide +kernel
theorem dX6_sendLorry_10 : decode cX6_sendLorry 10 = .ok (.getfield 15, 3) := by decide +kernel
theorem dX6_sendLorry_13 : decode cX6_sendLorry 13 = .ok (.iload_n 1, 1) := by decide +kernel
theorem dX6_sendLorry_14 : decode cX6_sendLorry 14 = .ok (.invokevirtual 109, 3) := by decide +kernel
theorem dX6_sendLorry_17 : decode cX6_sendLorry 17 = .ok (.ifCond .eq 6, 3) := by decide +kernel
theorem dX6_sendLorry_20 : decode cX6_sendLorry 20 = .ok (.bipush (-5), 2) := by decide +kernel
theorem dX6_sendLorry_22 : decode cX6_sendLorry 22 = .ok (.ireturn, 1) := by decide +kernel
theorem dX6_sendLorry_23 : decode cX6_sendLorry 23 = .ok (.aload_n 0, 1) := by decide +kernel
theorem dX6_sendLorry_24 : decode cX6_sendLorry 24 = .ok (.getfield 15, 3) := by decide +kernel
theorem dX6_sendLorry_27 : decode cX6_sendLorry 27 = .ok (.iload_n 1, 1) := by decide +kernel
theorem dX6_sendLorry_28 : decode cX6_sendLorry 28 = .ok (.invokevirtual 112, 3) := by decide +kernel
theorem dX6_sendLorry_31 : decode cX6_sendLorry 31 = .ok (.istore_n 2, 1) := by decide +kernel
theorem dX6_sendLorry_32 : decode cX6_sendLorry 32 = .ok (.iconst 0, 1) := by decide +kernel
theorem dX6_sendLorry_33 : decode cX6_sendLorry 33 = .ok (.istore_n 3, 1) := by decide +kernel
theorem dX6_sendLorry_34 : decode cX6_sendLorry 34 = .ok (.iconst 0, 1) := by decide +kernel
theorem dX6_sendLorry_35 : decode cX6_sendLorry 35 = .ok (.istore 4, 2) := by decide +kernel
theorem dX6_sendLorry_37 : decode cX6_sendLorry 37 = .ok (.iload 4, 2) := by decide +kernel
theorem dX6_sendLorry_39 : decode cX6_sendLorry 39 = .ok (.bipush 24, 2) := by decide +kernel
theorem dX6_sendLorry_41 : decode cX6_sendLorry 41 = .ok (.if_icmp .ge 28, 3) := by decide +kernel
theorem dX6_sendLorry_44 : decode cX6_sendLorry 44 = .ok (.iload_n 2, 1) := by decide +kernel
theorem dX6_sendLorry_45 : decode cX6_sendLorry 45 = .ok (.iload 4, 2) := by decide +kernel
theorem dX6_sendLorry_47 : decode cX6_sendLorry 47 = .ok (.ishr, 1) := by decide +kernel
theorem dX6_sendLorry_48 : decode cX6_sendLorry 48 = .ok (.iconst 1, 1) := by decide +kernel
theorem dX6_sendLorry_49 : decode cX6_sendLorry 49 = .ok (.iand, 1) := by decide +kernel
theorem dX6_sendLorry_50 : decode cX6_sendLorry 50 = .ok (.iconst 1, 1) := by decide +kernel
theorem dX6_sendLorry_51 : decode cX6_sendLorry 51 = .ok (.if_icmp .ne 12, 3) := by decide +kernel
theorem dX6_sendLorry_54 : decode cX6_sendLorry 54 = .ok (.iload_n 3, 1) := by decide +kernel
theorem dX6_sendLorry_55 : decode cX6_sendLorry 55 = .ok (.aload_n 0, 1) := by decide +kernel
theorem dX6_sendLorry_56 : decode cX6_sendLorry 56 = .ok (.iload 4, 2) := by decide +kernel
theorem dX6_sendLorry_58 : decode cX6_sendLorry 58 = .ok (.invokevirtual 115, 3) := by decide +kernel
theorem dX6_sendLorry_61 : decode cX6_sendLorry 61 = .ok (.iadd, 1) := by decide +kernel
theorem dX6_sendLorry_62 : decode cX6_sendLorry 62 = .ok (.istore_n 3, 1) := by decide +kernel
theorem dX6_sendLorry_63 : decode cX6_sendLorry 63 = .ok (.iinc 4 1, 3) := by decide +kernel
theorem dX6_sendLorry_66 : decode cX6_sendLorry 66 = .ok (.goto (-29), 3) := by decide +kernel
theorem dX6_sendLorry_69 : decode cX6_sendLorry 69 = .ok (.aload_n 0, 1) := by decide +kernel
theorem dX6_sendLorry_70 : decode cX6_sendLorry 70 = .ok (.getfield 9, 3) := by decide +kernel
theorem dX6_sendLorry_73 : decode cX6_sendLorry 73 = .ok (.iload_n 1, 1) := by decide +kernel
theorem dX6_sendLorry_74 : decode cX6_sendLorry 74 = .ok (.iconst 3, 1) := by decide +kernel
theorem dX6_sendLorry_75 : decode cX6_sendLorry 75 = .ok (.aload_n 0, 1) := by decide +kernel
theorem dX6_sendLorry_76 : decode cX6_sendLorry 76 = .ok (.getfield 9, 3) := by decide +kernel
theorem dX6_sendLorry_79 : decode cX6_sendLorry 79 = .ok (.iload_n 1, 1) := by decide +kernel
theorem dX6_sendLorry_80 : decode cX6_sendLorry 80 = .ok (.iconst 3, 1) := by decide +kernel
theorem dX6_sendLorry_81 : decode cX6_sendLorry 81 = .ok (.invokevirtual 118, 3) := by decide +kernel
theorem dX6_sendLorry_84 : decode cX6_sendLorry 84 = .ok (.iconst 1, 1) := by decide +kernel
theorem dX6_sendLorry_85 : decode cX6_sendLorry 85 = .ok (.iadd, 1) := by decide +kernel
theorem dX6_sendLorry_86 : decode cX6_sendLorry 86 = .ok (.invokevirtual 99, 3) := by decide +kernel
theorem dX6_sendLorry_89 : decode cX6_sendLorry 89 = .ok (.iload_n 3, 1) := by decide +kernel
theorem dX6_sendLorry_90 : decode cX6_sendLorry 90 = .ok (.ireturn, 1) := by decide +kernel
theorem dX6_deliver_0 : decode cX6_deliver 0 = .ok (.aload_n 0, 1) := by decide +kernel
theorem dX6_deliver_1 : decode cX6_deliver 1 = .ok (.getfield 9, 3) := by decide +kernel
theorem dX6_deliver_4 : decode cX6_deliver 4 = .ok (.iload_n 1, 1) := by decide +kernel
theorem dX6_deliver_5 : decode cX6_deliver 5 = .ok (.iconst 5, 1) := by decide +kernel
theorem dX6_deliver_6 : decode cX6_deliver 6 = .ok (.iconst 3, 1) := by decide +kernel
theorem dX6_deliver_7 : decode cX6_deliver 7 = .ok (.invokevirtual 44, 3) := by decide +kernel
theorem dX6_deliver_10 : decode cX6_deliver 10 = .ok (.aload_n 0, 1) := by decide +kernel
theorem dX6_deliver_11 : decode cX6_deliver 11 = .ok (.getfield 9, 3) := by decide +kernel
theorem dX6_deliver_14 : decode cX6_deliver 14 = .ok (.iload_n 1, 1) := by decide +kernel
theorem dX6_deliver_15 : decode cX6_deliver 15 = .ok (.bipush 9, 2) := by decide +kernel
theorem dX6_deliver_17 : decode cX6_deliver 17 = .ok (.bipush (-6), 2) := by decide +kernel
theorem dX6_deliver_19 : decode cX6_deliver 19 = .ok (.invokevirtual 44, 3) := by decide +kernel
theorem dX6_deliver_22 : decode cX6_deliver 22 = .ok (.aload_n 0, 1) := by decide +kernel
theorem dX6_deliver_23 : decode cX6_deliver 23 = .ok (.getfield 9, 3) := by decide +kernel
theorem dX6_deliver_26 : decode cX6_deliver 26 = .ok (.iload_n 1, 1) := by decide +kernel
theorem dX6_deliver_27 : decode cX6_deliver 27 = .ok (.bipush 8, 2) := by decide +kernel
theorem dX6_deliver_29 : decode cX6_deliver 29 = .ok (.invokevirtual 51, 3) := by decide +kernel
theorem dX6_deliver_32 : decode cX6_deliver 32 = .ok (.istore_n 2, 1) := by decide +kernel
theorem dX6_deliver_33 : decode cX6_deliver 33 = .ok (.iload_n 2, 1) := by decide +kernel
theorem dX6_deliver_34 : decode cX6_deliver 34 = .ok (.bipush (-6), 2) := by decide +kernel
theorem dX6_deliver_36 : decode cX6_deliver 36 = .ok (.if_icmp .ne 5, 3) := by decide +kernel
theorem dX6_deliver_39 : decode cX6_deliver 39 = .ok (.iconst 0, 1) := by decide +kernel
theorem dX6_deliver_40 : decode cX6_deliver 40 = .ok (.ireturn, 1) := by decide +kernel
theorem dX6_deliver_41 : decode cX6_deliver 41 = .ok (.aload_n 0, 1) := by decide +kernel
theorem dX6_deliver_42 : decode cX6_deliver 42 = .ok (.getfield 9, 3) := by decide +kernel
theorem dX6_deliver_45 : decode cX6_deliver 45 = .ok (.iconst 1, 1) := by decide +kernel
theorem dX6_deliver_46 : decode cX6_deliver 46 = .ok (.invokevirtual 26, 3) := by decide +kernel
theorem dX6_deliver_49 : decode cX6_deliver 49 = .ok (.aload_n 0, 1) := by decide +kernel
theorem dX6_deliver_50 : decode cX6_deliver 50 = .ok (.getfield 9, 3) := by decide +kernel
theorem dX6_deliver_53 : decode cX6_deliver 53 = .ok (.iload_n 1, 1) := by decide +kernel
theorem dX6_deliver_54 : decode cX6_deliver 54 = .ok (.iconst 4, 1) := by decide +kernel
theorem dX6_deliver_55 : decode cX6_deliver 55 = .ok (.invokevirtual 51, 3) := by decide +kernel
theorem dX6_deliver_58 : decode cX6_deliver 58 = .ok (.bipush 99, 2) := by decide +kernel
theorem dX6_deliver_60 : decode cX6_deliver 60 = .ok (.iadd, 1) := by decide +kernel
theorem dX6_deliver_61 : decode cX6_deliver 61 = .ok (.bipush 100, 2) := by decide +kernel
theorem dX6_deliver_63 : decode cX6_deliver 63 = .ok (.idiv, 1) := by decide +kernel
theorem dX6_deliver_64 : decode cX6_deliver 64 = .ok (.imul, 1) := by decide +kernel
theorem dX6_deliver_65 : decode cX6_deliver 65 = .ok (.istore_n 3, 1) := by decide +kernel
theorem dX6_deliver_66 : decode cX6_deliver 66 = .ok (.aload_n 0, 1) := by decide +kernel
theorem dX6_deliver_67 : decode cX6_deliver 67 = .ok (.getfield 9, 3) := by decide +kernel
theorem dX6_deliver_70 : decode cX6_deliver 70 = .ok (.iload_n 2, 1) := by decide +kernel
theorem dX6_deliver_71 : decode cX6_deliver 71 = .ok (.iconst 3, 1) := by decide +kernel
theorem dX6_deliver_72 : decode cX6_deliver 72 = .ok (.iconst 2, 1) := by decide +kernel
theorem dX6_deliver_73 : decode cX6_deliver 73 = .ok (.invokevirtual 75, 3) := by decide +kernel
theorem dX6_deliver_76 : decode cX6_deliver 76 = .ok (.aload_n 0, 1) := by decide +kernel
theorem dX6_deliver_77 : decode cX6_deliver 77 = .ok (.getfield 9, 3) := by decide +kernel
theorem dX6_deliver_80 : decode cX6_deliver 80 = .ok (.iload_n 2, 1) := by decide +kernel
theorem dX6_deliver_81 : decode cX6_deliver 81 = .ok (.iconst 5, 1) := by decide +kernel
theorem dX6_deliver_82 : decode cX6_deliver 82 = .ok (.iload_n 3, 1) := by decide +kernel
theorem dX6_deliver_83 : decode cX6_deliver 83 = .ok (.invokevirtual 75, 3) := by decide +kernel
theorem dX6_deliver_86 : decode cX6_deliver 86 = .ok (.iload_n 3, 1) := by decide +kernel
theorem dX6_deliver_87 : decode cX6_deliver 87 = .ok (.ireturn, 1) := by decide +kernel
theorem dX6_passNight_0 : decode cX6_passNight 0 = .ok (.iload_n 1, 1) := by decide +kernel
theorem dX6_passNight_1 : decode cX6_passNight 1 = .ok (.bipush (-40), 2) := by decide +kernel
theorem dX6_passNight_3 : decode cX6_passNight 3 = .ok (.if_icmp .lt 9, 3) := by decide +kernel
theorem dX6_passNight_6 : decode cX6_passNight 6 = .ok (.iload_n 1, 1) := by decide +kernel
theorem dX6_passNight_7 : decode cX6_passNight 7 = .ok (.bipush 40, 2) := by decide +kernel
theorem dX6_passNight_9 : decode cX6_passNight 9 = .ok (.if_icmp .le 6, 3) := by decide +kernel
theorem dX6_passNight_12 : decode cX6_passNight 12 = .ok (.bipush (-2), 2) := by decide +kernel
theorem dX6_passNight_14 : decode cX6_passNight 14 = .ok (.ireturn, 1) := by decide +kernel
theorem dX6_passNight_15 : decode cX6_passNight 15 = .ok (.aload_n 0, 1) := by decide +kernel
theorem dX6_passNight_16 : decode cX6_passNight 16 = .ok (.getfield 9, 3) := by decide +kernel
theorem dX6_passNight_19 : decode cX6_passNight 19 = .ok (.iconst 5, 1) := by decide +kernel
theorem dX6_passNight_20 : decode cX6_passNight 20 = .ok (.invokevirtual 26, 3) := by decide +kernel
theorem dX6_passNight_23 : decode cX6_passNight 23 = .ok (.istore_n 2, 1) := by decide +kernel
theorem dX6_passNight_24 : decode cX6_passNight 24 = .ok (.iload_n 2, 1) := by decide +kernel
theorem dX6_passNight_25 : decode cX6_passNight 25 = .ok (.sipush 999, 3) := by decide +kernel
theorem dX6_passNight_28 : decode cX6_passNight 28 = .ok (.if_icmp .lt 6, 3) := by decide +kernel
theorem dX6_passNight_31 : decode cX6_passNight 31 = .ok (.bipush (-5), 2) := by decide +kernel
theorem dX6_passNight_33 : decode cX6_passNight 33 = .ok (.ireturn, 1) := by decide +kernel
theorem dX6_passNight_34 : decode cX6_passNight 34 = .ok (.iload_n 1, 1) := by decide +kernel
theorem dX6_passNight_35 : decode cX6_passNight 35 = .ok (.aload_n 0, 1) := by decide +kernel
theorem dX6_passNight_36 : decode cX6_passNight 36 = .ok (.getfield 9, 3) := by decide +kernel
theorem dX6_passNight_39 : decode cX6_passNight 39 = .ok (.iconst 2, 1) := by decide +kernel
theorem dX6_passNight_40 : decode cX6_passNight 40 = .ok (.invokevirtual 26, 3) := by decide +kernel
theorem dX6_passNight_43 : decode cX6_passNight 43 = .ok (.if_icmp .gt 7, 3) := by decide +kernel
theorem dX6_passNight_46 : decode cX6_passNight 46 = .ok (.iconst 1, 1) := by decide +kernel
theorem dX6_passNight_47 : decode cX6_passNight 47 = .ok (.goto 4, 3) := by decide +kernel
theorem dX6_passNight_50 : decode cX6_passNight 50 = .ok (.iconst 0, 1) := by decide +kernel
theorem dX6_passNight_51 : decode cX6_passNight 51 = .ok (.istore_n 3, 1) := by decide +kernel
theorem dX6_passNight_52 : decode cX6_passNight 52 = .ok (.iload_n 3, 1) := by decide +kernel
theorem dX6_passNight_53 : decode cX6_passNight 53 = .ok (.ifCond .eq 10, 3) := by decide +kernel
theorem dX6_passNight_56 : decode cX6_passNight 56 = .ok (.aload_n 0, 1) := by decide +kernel
theorem dX6_passNight_57 : decode cX6_passNight 57 = .ok (.invokevirtual 121, 3) := by decide +kernel
theorem dX6_passNight_60 : decode cX6_passNight 60 = .ok (.goto 4, 3) := by decide +kernel
theorem dX6_passNight_63 : decode cX6_passNight 63 = .ok (.iconst 0, 1) := by decide +kernel
theorem dX6_passNight_64 : decode cX6_passNight 64 = .ok (.istore 4, 2) := by decide +kernel
theorem dX6_passNight_66 : decode cX6_passNight 66 = .ok (.aload_n 0, 1) := by decide +kernel
theorem dX6_passNight_67 : decode cX6_passNight 67 = .ok (.invokevirtual 125, 3) := by decide +kernel
theorem dX6_passNight_70 : decode cX6_passNight 70 = .ok (.aload_n 0, 1) := by decide +kernel
theorem dX6_passNight_71 : decode cX6_passNight 71 = .ok (.getfield 9, 3) := by decide +kernel
theorem dX6_passNight_74 : decode cX6_passNight 74 = .ok (.iconst 4, 1) := by decide +kernel
theorem dX6_passNight_75 : decode cX6_passNight 75 = .ok (.iload_n 3, 1) := by decide +kernel
theorem dX6_passNight_76 : decode cX6_passNight 76 = .ok (.ifCond .eq 7, 3) := by decide +kernel
theorem dX6_passNight_79 : decode cX6_passNight 79 = .ok (.iconst 1, 1) := by decide +kernel
theorem dX6_passNight_80 : decode cX6_passNight 80 = .ok (.goto 4, 3) := by decide +kernel
theorem dX6_passNight_83 : decode cX6_passNight 83 = .ok (.iconst 0, 1) := by decide +kernel
theorem dX6_passNight_84 : decode cX6_passNight 84 = .ok (.invokevirtual 32, 3) := by decide +kernel
theorem dX6_passNight_87 : decode cX6_passNight 87 = .ok (.aload_n 0, 1) := by decide +kernel
theorem dX6_passNight_88 : decode cX6_passNight 88 = .ok (.getfield 9, 3) := by decide +kernel
theorem dX6_passNight_91 : decode cX6_passNight 91 = .ok (.iconst 5, 1) := by decide +kernel
theorem dX6_passNight_92 : decode cX6_passNight 92 = .ok (.iload_n 2, 1) := by decide +kernel
theorem dX6_passNight_93 : decode cX6_passNight 93 = .ok (.iconst 1, 1) := by decide +kernel
theorem dX6_passNight_94 : decode cX6_passNight 94 = .ok (.iadd, 1) := by decide +kernel
theorem dX6_passNight_95 : decode cX6_passNight 95 = .ok (.invokevirtual 32, 3) := by decide +kernel
theorem dX6_passNight_98 : decode cX6_passNight 98 = .ok (.iload 4, 2) := by decide +kernel
theorem dX6_passNight_100 : decode cX6_passNight 100 = .ok (.ireturn, 1) := by decide +kernel
theorem dX6_crackBlocks_0 : decode cX6_crackBlocks 0 = .ok (.aload_n 0, 1) := by decide +kernel
theorem dX6_crackBlocks_1 : decode cX6_crackBlocks 1 = .ok (.getfield 15, 3) := by decide +kernel
theorem dX6_crackBlocks_4 : decode cX6_crackBlocks 4 = .ok (.invokevirtual 128, 3) := by decide +kernel
theorem dX6_crackBlocks_7 : decode cX6_crackBlocks 7 = .ok (.aload_n 0, 1) := by decide +kernel
theorem dX6_crackBlocks_8 : decode cX6_crackBlocks 8 = .ok (.getfield 9, 3) := by decide +kernel
theorem dX6_crackBlocks_11 : decode cX6_crackBlocks 11 = .ok (.bipush 7, 2) := by decide +kernel
theorem dX6_crackBlocks_13 : decode cX6_crackBlocks 13 = .ok (.iconst 0, 1) := by decide +kernel
theorem dX6_crackBlocks_14 : decode cX6_crackBlocks 14 = .ok (.invokevirtual 131, 3) := by decide +kernel
theorem dX6_crackBlocks_17 : decode cX6_crackBlocks 17 = .ok (.iand, 1) := by decide +kernel
theorem dX6_crackBlocks_18 : decode cX6_crackBlocks 18 = .ok (.istore_n 1, 1) := by decide +kernel
theorem dX6_crackBlocks_19 : decode cX6_crackBlocks 19 = .ok (.iconst 0, 1) := by decide +kernel
theorem dX6_crackBlocks_20 : decode cX6_crackBlocks 20 = .ok (.istore_n 2, 1) := by decide +kernel
theorem dX6_crackBlocks_21 : decode cX6_crackBlocks 21 = .ok (.iload_n 2, 1) := by decide +kernel
theorem dX6_crackBlocks_22 : decode cX6_crackBlocks 22 = .ok (.bipush 24, 2) := by decide +kernel
theorem dX6_crackBlocks_24 : decode cX6_crackBlocks 24 = .ok (.if_icmp .ge 29, 3) := by decide +kernel
theorem dX6_crackBlocks_27 : decode cX6_crackBlocks 27 = .ok (.iload_n 1, 1) := by decide +kernel
theorem dX6_crackBlocks_28 : decode cX6_crackBlocks 28 = .ok (.iload_n 2, 1) := by decide +kernel
theorem dX6_crackBlocks_29 : decode cX6_crackBlocks 29 = .ok (.ishr, 1) := by decide +kernel
theorem dX6_crackBlocks_30 : decode cX6_crackBlocks 30 = .ok (.iconst 1, 1) := by decide +kernel
theorem dX6_crackBlocks_31 : decode cX6_crackBlocks 31 = .ok (.iand, 1) := by decide +kernel
theorem dX6_crackBlocks_32 : decode cX6_crackBlocks 32 = .ok (.iconst 1, 1) := by decide +kernel
theorem dX6_crackBlocks_33 : decode cX6_crackBlocks 33 = .ok (.if_icmp .ne 14, 3) := by decide +kernel
theorem dX6_crackBlocks_36 : decode cX6_crackBlocks 36 = .ok (.aload_n 0, 1) := by decide +kernel
theorem dX6_crackBlocks_37 : decode cX6_crackBlocks 37 = .ok (.getfield 9, 3) := by decide +kernel
theorem dX6_crackBlocks_40 : decode cX6_crackBlocks 40 = .ok (.iload_n 2, 1) := by decide +kernel
theorem dX6_crackBlocks_41 : decode cX6_crackBlocks 41 = .ok (.bipush 7, 2) := by decide +kernel
theorem dX6_crackBlocks_43 : decode cX6_crackBlocks 43 = .ok (.iconst 1, 1) := by decide +kernel
theorem dX6_crackBlocks_44 : decode cX6_crackBlocks 44 = .ok (.invokevirtual 44, 3) := by decide +kernel
theorem dX6_crackBlocks_47 : decode cX6_crackBlocks 47 = .ok (.iinc 2 1, 3) := by decide +kernel
theorem dX6_crackBlocks_50 : decode cX6_crackBlocks 50 = .ok (.goto (-29), 3) := by decide +kernel
theorem dX6_crackBlocks_53 : decode cX6_crackBlocks 53 = .ok (.iload_n 1, 1) := by decide +kernel
theorem dX6_crackBlocks_54 : decode cX6_crackBlocks 54 = .ok (.invokestatic 134, 3) := by decide +kernel
theorem dX6_crackBlocks_57 : decode cX6_crackBlocks 57 = .ok (.ireturn, 1) := by decide +kernel
theorem dX6_dryBlocks_0 : decode cX6_dryBlocks 0 = .ok (.aload_n 0, 1) := by decide +kernel
theorem dX6_dryBlocks_1 : decode cX6_dryBlocks 1 = .ok (.getfield 9, 3) := by decide +kernel
theorem dX6_dryBlocks_4 : decode cX6_dryBlocks 4 = .ok (.bipush 6, 2) := by decide +kernel
theorem dX6_dryBlocks_6 : decode cX6_dryBlocks 6 = .ok (.invokevirtual 26, 3) := by decide +kernel
theorem dX6_dryBlocks_9 : decode cX6_dryBlocks 9 = .ok (.istore_n 1, 1) := by decide +kernel
theorem dX6_dryBlocks_10 : decode cX6_dryBlocks 10 = .ok (.iconst 0, 1) := by decide +kernel
theorem dX6_dryBlocks_11 : decode cX6_dryBlocks 11 = .ok (.istore_n 2, 1) := by decide +kernel
theorem dX6_dryBlocks_12 : decode cX6_dryBlocks 12 = .ok (.iload_n 2, 1) := by decide +kernel
theorem dX6_dryBlocks_13 : decode cX6_dryBlocks 13 = .ok (.iload_n 1, 1) := by decide +kernel
theorem dX6_dryBlocks_14 : decode cX6_dryBlocks 14 = .ok (.if_icmp .ge 60, 3) := by decide +kernel
theorem dX6_dryBlocks_17 : decode cX6_dryBlocks 17 = .ok (.aload_n 0, 1) := by decide +kernel
theorem dX6_dryBlocks_18 : decode cX6_dryBlocks 18 = .ok (.getfield 9, 3) := by decide +kernel
theorem dX6_dryBlocks_21 : decode cX6_dryBlocks 21 = .ok (.iload_n 2, 1) := by decide +kernel
theorem dX6_dryBlocks_22 : decode cX6_dryBlocks 22 = .ok (.iconst 5, 1) := by decide +kernel
theorem dX6_dryBlocks_23 : decode cX6_dryBlocks 23 = .ok (.invokevirtual 51, 3) := by decide +kernel
theorem dX6_dryBlocks_26 : decode cX6_dryBlocks 26 = .ok (.istore_n 3, 1) := by decide +kernel
theorem dX6_dryBlocks_27 : decode cX6_dryBlocks 27 = .ok (.aload_n 0, 1) := by decide +kernel
theorem dX6_dryBlocks_28 : decode cX6_dryBlocks 28 = .ok (.getfield 9, 3) := by decide +kernel
theorem dX6_dryBlocks_31 : decode cX6_dryBlocks 31 = .ok (.iload_n 2, 1) := by decide +kernel
theorem dX6_dryBlocks_32 : decode cX6_dryBlocks 32 = .ok (.bipush 6, 2) := by decide +kernel
theorem dX6_dryBlocks_34 : decode cX6_dryBlocks 34 = .ok (.invokevirtual 51, 3) := by decide +kernel
theorem dX6_dryBlocks_37 : decode cX6_dryBlocks 37 = .ok (.istore 4, 2) := by decide +kernel
theorem dX6_dryBlocks_39 : decode cX6_dryBlocks 39 = .ok (.iload 4, 2) := by decide +kernel
theorem dX6_dryBlocks_41 : decode cX6_dryBlocks 41 = .ok (.ifCond .le 27, 3) := by decide +kernel
theorem dX6_dryBlocks_44 : decode cX6_dryBlocks 44 = .ok (.iload_n 3, 1) := by decide +kernel
theorem dX6_dryBlocks_45 : decode cX6_dryBlocks 45 = .ok (.iconst 3, 1) := by decide +kernel
theorem dX6_dryBlocks_46 : decode cX6_dryBlocks 46 = .ok (.if_icmp .eq 22, 3) := by decide +kernel
theorem dX6_dryBlocks_49 : decode cX6_dryBlocks 49 = .ok (.iload_n 3, 1) := by decide +kernel
theorem dX6_dryBlocks_50 : decode cX6_dryBlocks 50 = .ok (.iconst 4, 1) := by decide +kernel
theorem dX6_dryBlocks_51 : decode cX6_dryBlocks 51 = .ok (.if_icmp .eq 17, 3) := by decide +kernel
theorem dX6_dryBlocks_54 : decode cX6_dryBlocks 54 = .ok (.aload_n 0, 1) := by decide +kernel
theorem dX6_dryBlocks_55 : decode cX6_dryBlocks 55 = .ok (.getfield 9, 3) := by decide +kernel
theorem dX6_dryBlocks_58 : decode cX6_dryBlocks 58 = .ok (.iload_n 2, 1) := by decide +kernel
theorem dX6_dryBlocks_59 : decode cX6_dryBlocks 59 = .ok (.bipush 6, 2) := by decide +kernel
theorem dX6_dryBlocks_61 : decode cX6_dryBlocks 61 = .ok (.iload 4, 2) := by decide +kernel
theorem dX6_dryBlocks_63 : decode cX6_dryBlocks 63 = .ok (.iconst 1, 1) := by decide +kernel
theorem dX6_dryBlocks_64 : decode cX6_dryBlocks 64 = .ok (.isub, 1) := by decide +kernel
theorem dX6_dryBlocks_65 : decode cX6_dryBlocks 65 = .ok (.invokevirtual 44, 3) := by decide +kernel
theorem dX6_dryBlocks_68 : decode cX6_dryBlocks 68 = .ok (.iinc 2 1, 3) := by decide +kernel
theorem dX6_dryBlocks_71 : decode cX6_dryBlocks 71 = .ok (.goto (-59), 3) := by decide +kernel
theorem dX6_dryBlocks_74 : decode cX6_dryBlocks 74 = .ok (.return_, 1) := by decide +kernel
theorem dX7_init_0 : decode cX7_init 0 = .ok (.aload_n 0, 1) := by decide +kernel
theorem dX7_init_1 : decode cX7_init 1 = .ok (.invokespecial 3, 3) := by decide +kernel
theorem dX7_init_4 : decode cX7_init 4 = .ok (.aload_n 0, 1) := by decide +kernel
theorem dX7_init_5 : decode cX7_init 5 = .ok (.new 9, 3) := by decide +kernel
theorem dX7_init_8 : decode cX7_init 8 = .ok (.dup, 1) := by decide +kernel
theorem dX7_init_9 : decode cX7_init 9 = .ok (.invokespecial 11, 3) := by decide +kernel
theorem dX7_init_12 : decode cX7_init 12 = .ok (.putfield 12, 3) := by decide +kernel
theorem dX7_init_15 : decode cX7_init 15 = .ok (.aload_n 0, 1) := by decide +kernel
theorem dX7_init_16 : decode cX7_init 16 = .ok (.new 16, 3) := by decide +kernel
theorem dX7_init_19 : decode cX7_init 19 = .ok (.dup, 1) := by decide +kernel
theorem dX7_init_20 : decode cX7_init 20 = .ok (.aload_n 0, 1) := by decide +kernel
theorem dX7_init_21 : decode cX7_init 21 = .ok (.getfield 12, 3) := by decide +kernel
theorem dX7_init_24 : decode cX7_init 24 = .ok (.invokespecial 18, 3) := by decide +kernel
theorem dX7_init_27 : decode cX7_init 27 = .ok (.putfield 21, 3) := by decide +kernel
theorem dX7_init_30 : decode cX7_init 30 = .ok (.aload_n 0, 1) := by decide +kernel
theorem dX7_init_31 : decode cX7_init 31 = .ok (.new 25, 3) := by decide +kernel
theorem dX7_init_34 : decode cX7_init 34 = .ok (.dup, 1) := by decide +kernel
theorem dX7_init_35 : decode cX7_init 35 = .ok (.aload_n 0, 1) := by decide +kernel
theorem dX7_init_36 : decode cX7_init 36 = .ok (.getfield 12, 3) := by decide +kernel
theorem dX7_init_39 : decode cX7_init 39 = .ok (.aload_n 0, 1) := by decide +kernel
theorem dX7_init_40 : decode cX7_init 40 = .ok (.getfield 21, 3) := by decide +kernel
theorem dX7_init_43 : decode cX7_init 43 = .ok (.invokespecial 27, 3) := by decide +kernel
theorem dX7_init_46 : decode cX7_init 46 = .ok (.putfield 30, 3) := by decide +kernel
theorem dX7_init_49 : decode cX7_init 49 = .ok (.aload_n 0, 1) := by decide +kernel
theorem dX7_init_50 : decode cX7_init 50 = .ok (.new 34, 3) := by decide +kernel
theorem dX7_init_53 : decode cX7_init 53 = .ok (.dup, 1) := by decide +kernel
theorem dX7_init_54 : decode cX7_init 54 = .ok (.invokespecial 36, 3) := by decide +kernel
theorem dX7_init_57 : decode cX7_init 57 = .ok (.putfield 37, 3) := by decide +kernel
theorem dX7_init_60 : decode cX7_init 60 = .ok (.aload_n 0, 1) := by decide +kernel
theorem dX7_init_61 : decode cX7_init 61 = .ok (.new 41, 3) := by decide +kernel
theorem dX7_init_64 : decode cX7_init 64 = .ok (.dup, 1) := by decide +kernel
theorem dX7_init_65 : decode cX7_init 65 = .ok (.invokespecial 43, 3) := by decide +kernel
theorem dX7_init_68 : decode cX7_init 68 = .ok (.putfield 44, 3) := by decide +kernel
theorem dX7_init_71 : decode cX7_init 71 = .ok (.aload_n 0, 1) := by decide +kernel
theorem dX7_init_72 : decode cX7_init 72 = .ok (.new 48, 3) := by decide +kernel
theorem dX7_init_75 : decode cX7_init 75 = .ok (.dup, 1) := by decide +kernel
theorem dX7_init_76 : decode cX7_init 76 = .ok (.invokespecial 50, 3) := by decide +kernel
theorem dX7_init_79 : decode cX7_init 79 = .ok (.putfield 51, 3) := by decide +kernel
theorem dX7_init_82 : decode cX7_init 82 = .ok (.return_, 1) := by decide +kernel
theorem dX7_set_0 : decode cX7_set 0 = .ok (.aload_n 0, 1) := by decide +kernel
theorem dX7_set_1 : decode cX7_set 1 = .ok (.getfield 37, 3) := by decide +kernel
theorem dX7_set_4 : decode cX7_set 4 = .ok (.aload_n 0, 1) := by decide +kernel
theorem dX7_set_5 : decode cX7_set 5 = .ok (.getfield 12, 3) := by decide +kernel
theorem dX7_set_8 : decode cX7_set 8 = .ok (.invokevirtual 55, 3) := by decide +kernel
theorem dX7_set_11 : decode cX7_set 11 = .ok (.aload_n 0, 1) := by decide +kernel
theorem dX7_set_12 : decode cX7_set 12 = .ok (.getfield 37, 3) := by decide +kernel
theorem dX7_set_15 : decode cX7_set 15 = .ok (.aload_n 0, 1) := by decide +kernel
theorem dX7_set_16 : decode cX7_set 16 = .ok (.getfield 30, 3) := by decide +kernel
theorem dX7_set_19 : decode cX7_set 19 = .ok (.iload_n 1, 1) := by decide +kernel
theorem dX7_set_20 : decode cX7_set 20 = .ok (.iload_n 2, 1) := by decide +kernel
theorem dX7_set_21 : decode cX7_set 21 = .ok (.invokevirtual 58, 3) := by decide +kernel
theorem dX7_set_24 : decode cX7_set 24 = .ok (.invokevirtual 62, 3) := by decide +kernel
theorem dX7_set_27 : decode cX7_set 27 = .ok (.ireturn, 1) := by decide +kernel
theorem dX7_quarry_0 : decode cX7_quarry 0 = .ok (.aload_n 0, 1) := by decide +kernel
theorem dX7_quarry_1 : decode cX7_quarry 1 = .ok (.getfield 37, 3) := by decide +kernel
theorem dX7_quarry_4 : decode cX7_quarry 4 = .ok (.aload_n 0, 1) := by decide +kernel
theorem dX7_quarry_5 : decode cX7_quarry 5 = .ok (.getfield 12, 3) := by decide +kernel
theorem dX7_quarry_8 : decode cX7_quarry 8 = .ok (.invokevirtual 55, 3) := by decide +kernel
theorem dX7_quarry_11 : decode cX7_quarry 11 = .ok (.aload_n 0, 1) := by decide +kernel
theorem dX7_quarry_12 : decode cX7_quarry 12 = .ok (.getfield 37, 3) := by decide +kernel
theorem dX7_quarry_15 : decode cX7_quarry 15 = .ok (.aload_n 0, 1) := by decide +kernel
theorem dX7_quarry_16 : decode cX7_quarry 16 = .ok (.getfield 30, 3) := by decide +kernel
theorem dX7_quarry_19 : decode cX7_quarry 19 = .ok (.iload_n 1, 1) := by decide +kernel
theorem dX7_quarry_20 : decode cX7_quarry 20 = .ok (.iload_n 2, 1) := by decide +kernel
theorem dX7_quarry_21 : decode cX7_quarry 21 = .ok (.iload_n 3, 1) := by decide +kernel
theorem dX7_quarry_22 : decode cX7_quarry 22 = .ok (.iload 4, 2) := by decide +kernel
theorem dX7_quarry_24 : decode cX7_quarry 24 = .ok (.invokevirtual 66, 3) := by decide +kernel
theorem dX7_quarry_27 : decode cX7_quarry 27 = .ok (.invokevirtual 62, 3) := by decide +kernel
theorem dX7_quarry_30 : decode cX7_quarry 30 = .ok (.ireturn, 1) := by decide +kernel
theorem dX7_cut_0 : decode cX7_cut 0 = .ok (.aload_n 0, 1) := by decide +kernel
theorem dX7_cut_1 : decode cX7_cut 1 = .ok (.getfield 37, 3) := by decide +kernel
theorem dX7_cut_4 : decode cX7_cut 4 = .ok (.aload_n 0, 1) := by decide +kernel
theorem dX7_cut_5 : decode cX7_cut 5 = .ok (.getfield 12, 3) := by decide +kernel
theorem dX7_cut_8 : decode cX7_cut 8 = .ok (.invokevirtual 55, 3) := by decide +kernel
theorem dX7_cut_11 : decode cX7_cut 11 = .ok (.aload_n 0, 1) := by decide +kernel
theorem dX7_cut_12 : decode cX7_cut 12 = .ok (.getfield 37, 3) := by decide +kernel
theorem dX7_cut_15 : decode cX7_cut 15 = .ok (.aload_n 0, 1) := by decide +kernel
theorem dX7_cut_16 : decode cX7_cut 16 = .ok (.getfield 30, 3) := by decide +kernel
theorem dX7_cut_19 : decode cX7_cut 19 = .ok (.iload_n 1, 1) := by decide +kernel
theorem dX7_cut_20 : decode cX7_cut 20 = .ok (.iload_n 2, 1) := by decide +kernel
theorem dX7_cut_21 : decode cX7_cut 21 = .ok (.iload_n 3, 1) := by decide +kernel
theorem dX7_cut_22 : decode cX7_cut 22 = .ok (.invokevirtual 70, 3) := by decide +kernel
theorem dX7_cut_25 : decode cX7_cut 25 = .ok (.invokevirtual 62, 3) := by decide +kernel
theorem dX7_cut_28 : decode cX7_cut 28 = .ok (.ireturn, 1) := by decide +kernel
theorem dX7_shelter_0 : decode cX7_shelter 0 = .ok (.aload_n 0, 1) := by decide +kernel
theorem dX7_shelter_1 : decode cX7_shelter 1 = .ok (.getfield 37, 3) := by decide +kernel
theorem dX7_shelter_4 : decode cX7_shelter 4 = .ok (.aload_n 0, 1) := by decide +kernel
theorem dX7_shelter_5 : decode cX7_shelter 5 = .ok (.getfield 12, 3) := by decide +kernel
theorem dX7_shelter_8 : decode cX7_shelter 8 = .ok (.invokevirtual 55, 3) := by decide +kernel
theorem dX7_shelter_11 : decode cX7_shelter 11 = .ok (.aload_n 0, 1) := by decide +kernel
theorem dX7_shelter_12 : decode cX7_shelter 12 = .ok (.getfield 37, 3) := by decide +kernel
theorem dX7_shelter_15 : decode cX7_shelter 15 = .ok (.aload_n 0, 1) := by decide +kernel
theorem dX7_shelter_16 : decode cX7_shelter 16 = .ok (.getfield 30, 3) := by decide +kernel
theorem dX7_shelter_19 : decode cX7_shelter 19 = .ok (.iload_n 1, 1) := by decide +kernel
theorem dX7_shelter_20 : decode cX7_shelter 20 = .ok (.invokevirtual 74, 3) := by decide +kernel
theorem dX7_shelter_23 : decode cX7_shelter 23 = .ok (.invokevirtual 62, 3) := by decide +kernel
theorem dX7_shelter_26 : decode cX7_shelter 26 = .ok (.ireturn, 1) := by decide +kernel
theorem dX7_order_0 : decode cX7_order 0 = .ok (.aload_n 0, 1) := by decide +kernel
theorem dX7_order_1 : decode cX7_order 1 = .ok (.getfield 37, 3) := by decide +kernel
theorem dX7_order_4 : decode cX7_order 4 = .ok (.aload_n 0, 1) := by decide +kernel
theorem dX7_order_5 : decode cX7_order 5 = .ok (.getfield 12, 3) := by decide +kernel
theorem dX7_order_8 : decode cX7_order 8 = .ok (.invokevirtual 55, 3) := by decide +kernel
theorem dX7_order_11 : decode cX7_order 11 = .ok (.aload_n 0, 1) := by decide +kernel
theorem dX7_order_12 : decode cX7_order 12 = .ok (.getfield 37, 3) := by decide +kernel
theorem dX7_order_15 : decode cX7_order 15 = .ok (.aload_n 0, 1) := by decide +kernel
theorem dX7_order_16 : decode cX7_order 16 = .ok (.getfield 30, 3) := by decide +kernel
theorem dX7_order_19 : decode cX7_order 19 = .ok (.iload_n 1, 1) := by decide +kernel
theorem dX7_order_20 : decode cX7_order 20 = .ok (.iload_n 2, 1) := by decide +kernel
theorem dX7_order_21 : decode cX7_order 21 = .ok (.iload_n 3, 1) := by decide +kernel
theorem dX7_order_22 : decode cX7_order 22 = .ok (.invokevirtual 77, 3) := by decide +kernel
theorem dX7_order_25 : decode cX7_order 25 = .ok (.invokevirtual 62, 3) := by decide +kernel
theorem dX7_order_28 : decode cX7_order 28 = .ok (.ireturn, 1) := by decide +kernel
theorem dX7_give_0 : decode cX7_give 0 = .ok (.aload_n 0, 1) := by decide +kernel
theorem dX7_give_1 : decode cX7_give 1 = .ok (.getfield 37, 3) := by decide +kernel
theorem dX7_give_4 : decode cX7_give 4 = .ok (.aload_n 0, 1) := by decide +kernel
theorem dX7_give_5 : decode cX7_give 5 = .ok (.getfield 12, 3) := by decide +kernel
theorem dX7_give_8 : decode cX7_give 8 = .ok (.invokevirtual 55, 3) := by decide +kernel
theorem dX7_give_11 : decode cX7_give 11 = .ok (.aload_n 0, 1) := by decide +kernel
theorem dX7_give_12 : decode cX7_give 12 = .ok (.getfield 37, 3) := by decide +kernel
theorem dX7_give_15 : decode cX7_give 15 = .ok (.aload_n 0, 1) := by decide +kernel
theorem dX7_give_16 : decode cX7_give 16 = .ok (.getfield 30, 3) := by decide +kernel
theorem dX7_give_19 : decode cX7_give 19 = .ok (.iload_n 1, 1) := by decide +kernel
theorem dX7_give_20 : decode cX7_give 20 = .ok (.iload_n 2, 1) := by decide +kernel
theorem dX7_give_21 : decode cX7_give 21 = .ok (.invokevirtual 80, 3) := by decide +kernel
theorem dX7_give_24 : decode cX7_give 24 = .ok (.invokevirtual 62, 3) := by decide +kernel
theorem dX7_give_27 : decode cX7_give 27 = .ok (.ireturn, 1) := by decide +kernel
theorem dX7_takeBack_0 : decode cX7_takeBack 0 = .ok (.aload_n 0, 1) := by decide +kernel
theorem dX7_takeBack_1 : decode cX7_takeBack 1 = .ok (.getfield 37, 3) := by decide +kernel
theorem dX7_takeBack_4 : decode cX7_takeBack 4 = .ok (.aload_n 0, 1) := by decide +kernel
theorem dX7_takeBack_5 : decode cX7_takeBack 5 = .ok (.getfield 12, 3) := by decide +kernel
theorem dX7_takeBack_8 : decode cX7_takeBack 8 = .ok (.invokevirtual 55, 3) := by decide +kernel
theorem dX7_takeBack_11 : decode cX7_takeBack 11 = .ok (.aload_n 0, 1) := by decide +kernel
theorem dX7_takeBack_12 : decode cX7_takeBack 12 = .ok (.getfield 37, 3) := by decide +kernel
theorem dX7_takeBack_15 : decode cX7_takeBack 15 = .ok (.aload_n 0, 1) := by decide +kernel
theorem dX7_takeBack_16 : decode cX7_takeBack 16 = .ok (.getfield 30, 3) := by decide +kernel
theorem dX7_takeBack_19 : decode cX7_takeBack 19 = .ok (.iload_n 1, 1) := by decide +kernel
theorem dX7_takeBack_20 : decode cX7_takeBack 20 = .ok (.invokevirtual 83, 3) := by decide +kernel
theorem dX7_takeBack_23 : decode cX7_takeBack 23 = .ok (.invokevirtual 62, 3) := by decide +kernel
theorem dX7_takeBack_26 : decode cX7_takeBack 26 = .ok (.ireturn, 1) := by decide +kernel
theorem dX7_limits_0 : decode cX7_limits 0 = .ok (.aload_n 0, 1) := by decide +kernel
theorem dX7_limits_1 : decode cX7_limits 1 = .ok (.getfield 37, 3) := by decide +kernel
theorem dX7_limits_4 : decode cX7_limits 4 = .ok (.aload_n 0, 1) := by decide +kernel
theorem dX7_limits_5 : decode cX7_limits 5 = .ok (.getfield 12, 3) := by decide +kernel
theorem dX7_limits_8 : decode cX7_limits 8 = .ok (.invokevirtual 55, 3) := by decide +kernel
theorem dX7_limits_11 : decode cX7_limits 11 = .ok (.aload_n 0, 1) := by decide +kernel
theorem dX7_limits_12 : decode cX7_limits 12 = .ok (.getfield 37, 3) := by decide +kernel
theorem dX7_limits_15 : decode cX7_limits 15 = .ok (.aload_n 0, 1) := by decide +kernel
theorem dX7_limits_16 : decode cX7_limits 16 = .ok (.getfield 30, 3) := by decide +kernel
theorem dX7_limits_19 : decode cX7_limits 19 = .ok (.iload_n 1, 1) := by decide +kernel
theorem dX7_limits_20 : decode cX7_limits 20 = .ok (.iload_n 2, 1) := by decide +kernel
theorem dX7_limits_21 : decode cX7_limits 21 = .ok (.iload_n 3, 1) := by decide +kernel
theorem dX7_limits_22 : decode cX7_limits 22 = .ok (.iload 4, 2) := by decide +kernel
theorem dX7_limits_24 : decode cX7_limits 24 = .ok (.invokevirtual 86, 3) := by decide +kernel
theorem dX7_limits_27 : decode cX7_limits 27 = .ok (.invokevirtual 62, 3) := by decide +kernel
theorem dX7_limits_30 : decode cX7_limits 30 = .ok (.ireturn, 1) := by decide +kernel
theorem dX7_load_0 : decode cX7_load 0 = .ok (.aload_n 0, 1) := by decide +kernel
theorem dX7_load_1 : decode cX7_load 1 = .ok (.getfield 37, 3) := by decide +kernel
theorem dX7_load_4 : decode cX7_load 4 = .ok (.aload_n 0, 1) := by decide +kernel
theorem dX7_load_5 : decode cX7_load 5 = .ok (.getfield 12, 3) := by decide +kernel
theorem dX7_load_8 : decode cX7_load 8 = .ok (.invokevirtual 55, 3) := by decide +kernel
theorem dX7_load_11 : decode cX7_load 11 = .ok (.aload_n 0, 1) := by decide +kernel
theorem dX7_load_12 : decode cX7_load 12 = .ok (.getfield 37, 3) := by decide +kernel
theorem dX7_load_15 : decode cX7_load 15 = .ok (.aload_n 0, 1) := by decide +kernel
theorem dX7_load_16 : decode cX7_load 16 = .ok (.getfield 30, 3) := by decide +kernel
theorem dX7_load_19 : decode cX7_load 19 = .ok (.iload_n 1, 1) := by decide +kernel
theorem dX7_load_20 : decode cX7_load 20 = .ok (.iload_n 2, 1) := by decide +kernel
theorem dX7_load_21 : decode cX7_load 21 = .ok (.iload_n 3, 1) := by decide +kernel
theorem dX7_load_22 : decode cX7_load 22 = .ok (.invokevirtual 89, 3) := by decide +kernel
theorem dX7_load_25 : decode cX7_load 25 = .ok (.invokevirtual 62, 3) := by decide +kernel
theorem dX7_load_28 : decode cX7_load 28 = .ok (.ireturn, 1) := by decide +kernel
theorem dX7_unload_0 : decode cX7_unload 0 = .ok (.aload_n 0, 1) := by decide +kernel
theorem dX7_unload_1 : decode cX7_unload 1 = .ok (.getfield 37, 3) := by decide +kernel
theorem dX7_unload_4 : decode cX7_unload 4 = .ok (.aload_n 0, 1) := by decide +kernel
theorem dX7_unload_5 : decode cX7_unload 5 = .ok (.getfield 12, 3) := by decide +kernel
theorem dX7_unload_8 : decode cX7_unload 8 = .ok (.invokevirtual 55, 3) := by decide +kernel
theorem dX7_unload_11 : decode cX7_unload 11 = .ok (.aload_n 0, 1) := by decide +kernel
theorem dX7_unload_12 : decode cX7_unload 12 = .ok (.getfield 37, 3) := by decide +kernel
theorem dX7_unload_15 : decode cX7_unload 15 = .ok (.aload_n 0, 1) := by decide +kernel
theorem dX7_unload_16 : decode cX7_unload 16 = .ok (.getfield 30, 3) := by decide +kernel
theorem dX7_unload_19 : decode cX7_unload 19 = .ok (.iload_n 1, 1) := by decide +kernel
theorem dX7_unload_20 : decode cX7_unload 20 = .ok (.invokevirtual 92, 3) := by decide +kernel
theorem dX7_unload_23 : decode cX7_unload 23 = .ok (.invokevirtual 62, 3) := by decide +kernel
theorem dX7_unload_26 : decode cX7_unload 26 = .ok (.ireturn, 1) := by decide +kernel
theorem dX7_leave_0 : decode cX7_leave 0 = .ok (.aload_n 0, 1) := by decide +kernel
theorem dX7_leave_1 : decode cX7_leave 1 = .ok (.getfield 37, 3) := by decide +kernel
theorem dX7_leave_4 : decode cX7_leave 4 = .ok (.aload_n 0, 1) := by decide +kernel
theorem dX7_leave_5 : decode cX7_leave 5 = .ok (.getfield 12, 3) := by decide +kernel
theorem dX7_leave_8 : decode cX7_leave 8 = .ok (.invokevirtual 55, 3) := by decide +kernel
theorem dX7_leave_11 : decode cX7_leave 11 = .ok (.aload_n 0, 1) := by decide +kernel
theorem dX7_leave_12 : decode cX7_leave 12 = .ok (.getfield 37, 3) := by decide +kernel
theorem dX7_leave_15 : decode cX7_leave 15 = .ok (.aload_n 0, 1) := by decide +kernel
theorem dX7_leave_16 : decode cX7_leave 16 = .ok (.getfield 30, 3) := by decide +kernel
theorem dX7_leave_19 : decode cX7_leave 19 = .ok (.iload_n 1, 1) := by decide +kernel
theorem dX7_leave_20 : decode cX7_leave 20 = .ok (.invokevirtual 95, 3) := by decide +kernel
theorem dX7_leave_23 : decode cX7_leave 23 = .ok (.invokevirtual 62, 3) := by decide +kernel
theorem dX7_leave_26 : decode cX7_leave 26 = .ok (.ireturn, 1) := by decide +kernel
theorem dX7_night_0 : decode cX7_night 0 = .ok (.aload_n 0, 1) := by decide +kernel
theorem dX7_night_1 : decode cX7_night 1 = .ok (.getfield 37, 3) := by decide +kernel
theorem dX7_night_4 : decode cX7_night 4 = .ok (.aload_n 0, 1) := by decide +kernel
theorem dX7_night_5 : decode cX7_night 5 = .ok (.getfield 12, 3) := by decide +kernel
theorem dX7_night_8 : decode cX7_night 8 = .ok (.invokevirtual 55, 3) := by decide +kernel
theorem dX7_night_11 : decode cX7_night 11 = .ok (.aload_n 0, 1) := by decide +kernel
theorem dX7_night_12 : decode cX7_night 12 = .ok (.getfield 37, 3) := by decide +kernel
theorem dX7_night_15 : decode cX7_night 15 = .ok (.aload_n 0, 1) := by decide +kernel
theorem dX7_night_16 : decode cX7_night 16 = .ok (.getfield 30, 3) := by decide +kernel
theorem dX7_night_19 : decode cX7_night 19 = .ok (.iload_n 1, 1) := by decide +kernel
theorem dX7_night_20 : decode cX7_night 20 = .ok (.invokevirtual 98, 3) := by decide +kernel
theorem dX7_night_23 : decode cX7_night 23 = .ok (.invokevirtual 62, 3) := by decide +kernel
theorem dX7_night_26 : decode cX7_night 26 = .ok (.ireturn, 1) := by decide +kernel
theorem dX7_of_0 : decode cX7_of 0 = .ok (.aload_n 0, 1) := by decide +kernel
theorem dX7_of_1 : decode cX7_of 1 = .ok (.getfield 12, 3) := by decide +kernel
theorem dX7_of_4 : decode cX7_of 4 = .ok (.iload_n 1, 1) := by decide +kernel
theorem dX7_of_5 : decode cX7_of 5 = .ok (.invokevirtual 101, 3) := by decide +kernel
theorem dX7_of_8 : decode cX7_of 8 = .ok (.ifCond .ne 5, 3) := by decide +kernel
theorem dX7_of_11 : decode cX7_of 11 = .ok (.iconst (-1), 1) := by decide +kernel
theorem dX7_of_12 : decode cX7_of 12 = .ok (.ireturn, 1) := by decide +kernel
theorem dX7_of_13 : decode cX7_of 13 = .ok (.iload_n 2, 1) := by decide +kernel
theorem dX7_of_14 : decode cX7_of 14 = .ok (.ifCond .lt 9, 3) := by decide +kernel
theorem dX7_of_17 : decode cX7_of 17 = .ok (.iload_n 2, 1) := by decide +kernel
theorem dX7_of_18 : decode cX7_of 18 = .ok (.bipush 11, 2) := by decide +kernel
theorem dX7_of_20 : decode cX7_of 20 = .ok (.if_icmp .lt 8, 3) := by decide +kernel
theorem dX7_of_23 : decode cX7_of 23 = .ok (.bipush (-2), 2) := by decide +kernel
theorem dX7_of_25 : decode cX7_of 25 = .ok (.goto 12, 3) := by decide +kernel
theorem dX7_of_28 : decode cX7_of 28 = .ok (.aload_n 0, 1) := by decide +kernel
theorem dX7_of_29 : decode cX7_of 29 = .ok (.getfield 12, 3) := by decide +kernel
theorem dX7_of_32 : decode cX7_of 32 = .ok (.iload_n 1, 1) := by decide +kernel
theorem dX7_of_33 : decode cX7_of 33 = .ok (.iload_n 2, 1) := by decide +kernel
theorem dX7_of_34 : decode cX7_of 34 = .ok (.invokevirtual 105, 3) := by decide +kernel
theorem dX7_of_37 : decode cX7_of 37 = .ok (.ireturn, 1) := by decide +kernel
theorem dX7_ofOrder_0 : decode cX7_ofOrder 0 = .ok (.aload_n 0, 1) := by decide +kernel
theorem dX7_ofOrder_1 : decode cX7_ofOrder 1 = .ok (.getfield 12, 3) := by decide +kernel
theorem dX7_ofOrder_4 : decode cX7_ofOrder 4 = .ok (.iload_n 1, 1) := by decide +kernel
theorem dX7_ofOrder_5 : decode cX7_ofOrder 5 = .ok (.invokevirtual 108, 3) := by decide +kernel
theorem dX7_ofOrder_8 : decode cX7_ofOrder 8 = .ok (.ifCond .ne 5, 3) := by decide +kernel
theorem dX7_ofOrder_11 : decode cX7_ofOrder 11 = .ok (.iconst (-1), 1) := by decide +kernel
theorem dX7_ofOrder_12 : decode cX7_ofOrder 12 = .ok (.ireturn, 1) := by decide +kernel
theorem dX7_ofOrder_13 : decode cX7_ofOrder 13 = .ok (.iload_n 2, 1) := by decide +kernel
theorem dX7_ofOrder_14 : decode cX7_ofOrder 14 = .ok (.ifCond .lt 9, 3) := by decide +kernel
theorem dX7_ofOrder_17 : decode cX7_ofOrder 17 = .ok (.iload_n 2, 1) := by decide +kernel
theorem dX7_ofOrder_18 : decode cX7_ofOrder 18 = .ok (.bipush 6, 2) := by decide +kernel
theorem dX7_ofOrder_20 : decode cX7_ofOrder 20 = .ok (.if_icmp .le 6, 3) := by decide +kernel
theorem dX7_ofOrder_23 : decode cX7_ofOrder 23 = .ok (.bipush (-2), 2) := by decide +kernel
theorem dX7_ofOrder_25 : decode cX7_ofOrder 25 = .ok (.ireturn, 1) := by decide +kernel
theorem dX7_ofOrder_26 : decode cX7_ofOrder 26 = .ok (.iload_n 2, 1) := by decide +kernel
theorem dX7_ofOrder_27 : decode cX7_ofOrder 27 = .ok (.bipush 6, 2) := by decide +kernel
theorem dX7_ofOrder_29 : decode cX7_ofOrder 29 = .ok (.if_icmp .ne 14, 3) := by decide +kernel
theorem dX7_ofOrder_32 : decode cX7_ofOrder 32 = .ok (.aload_n 0, 1) := by decide +kernel
theorem dX7_ofOrder_33 : decode cX7_ofOrder 33 = .ok (.getfield 21, 3) := by decide +kernel
theorem dX7_ofOrder_36 : decode cX7_ofOrder 36 = .ok (.iload_n 1, 1) := by decide +kernel
theorem dX7_ofOrder_37 : decode cX7_ofOrder 37 = .ok (.invokevirtual 111, 3) := by decide +kernel
theorem dX7_ofOrder_40 : decode cX7_ofOrder 40 = .ok (.goto 12, 3) := by decide +kernel
theorem dX7_ofOrder_43 : decode cX7_ofOrder 43 = .ok (.aload_n 0, 1) := by decide +kernel
theorem dX7_ofOrder_44 : decode cX7_ofOrder 44 = .ok (.getfield 12, 3) := by decide +kernel
theorem dX7_ofOrder_47 : decode cX7_ofOrder 47 = .ok (.iload_n 1, 1) := by decide +kernel
theorem dX7_ofOrder_48 : decode cX7_ofOrder 48 = .ok (.iload_n 2, 1) := by decide +kernel
theorem dX7_ofOrder_49 : decode cX7_ofOrder 49 = .ok (.invokevirtual 114, 3) := by decide +kernel
theorem dX7_ofOrder_52 : decode cX7_ofOrder 52 = .ok (.ireturn, 1) := by decide +kernel
theorem dX7_ofLorry_0 : decode cX7_ofLorry 0 = .ok (.iload_n 1, 1) := by decide +kernel
theorem dX7_ofLorry_1 : decode cX7_ofLorry 1 = .ok (.invokestatic 117, 3) := by decide +kernel
theorem dX7_ofLorry_4 : decode cX7_ofLorry 4 = .ok (.ifCond .ne 5, 3) := by decide +kernel
theorem dX7_ofLorry_7 : decode cX7_ofLorry 7 = .ok (.iconst (-1), 1) := by decide +kernel
theorem dX7_ofLorry_8 : decode cX7_ofLorry 8 = .ok (.ireturn, 1) := by decide +kernel
theorem dX7_ofLorry_9 : decode cX7_ofLorry 9 = .ok (.iload_n 2, 1) := by decide +kernel
theorem dX7_ofLorry_10 : decode cX7_ofLorry 10 = .ok (.tableswitch 134 0 7 #[46, 55, 70, 85, 94, 104, 114, 124], 46) := by decide +kernel
theorem dX7_ofLorry_56 : decode cX7_ofLorry 56 = .ok (.aload_n 0, 1) := by decide +kernel
theorem dX7_ofLorry_57 : decode cX7_ofLorry 57 = .ok (.getfield 21, 3) := by decide +kernel
theorem dX7_ofLorry_60 : decode cX7_ofLorry 60 = .ok (.iload_n 1, 1) := by decide +kernel
theorem dX7_ofLorry_61 : decode cX7_ofLorry 61 = .ok (.invokevirtual 120, 3) := by decide +kernel
theorem dX7_ofLorry_64 : decode cX7_ofLorry 64 = .ok (.ireturn, 1) := by decide +kernel
theorem dX7_ofLorry_65 : decode cX7_ofLorry 65 = .ok (.aload_n 0, 1) := by decide +kernel
theorem dX7_ofLorry_66 : decode cX7_ofLorry 66 = .ok (.getfield 21, 3) := by decide +kernel
theorem dX7_ofLorry_69 : decode cX7_ofLorry 69 = .ok (.iload_n 1, 1) := by decide +kernel
theorem dX7_ofLorry_70 : decode cX7_ofLorry 70 = .ok (.bipush (-6), 2) := by decide +kernel
theorem dX7_ofLorry_72 : decode cX7_ofLorry 72 = .ok (.iconst 0, 1) := by decide +kernel
theorem dX7_ofLorry_73 : decode cX7_ofLorry 73 = .ok (.invokevirtual 123, 3) := by decide +kernel
theorem dX7_ofLorry_76 : decode cX7_ofLorry 76 = .ok (.invokestatic 127, 3) := by decide +kernel
theorem dX7_ofLorry_79 : decode cX7_ofLorry 79 = .ok (.ireturn, 1) := by decide +kernel
theorem dX7_ofLorry_80 : decode cX7_ofLorry 80 = .ok (.aload_n 0, 1) := by decide +kernel
theorem dX7_ofLorry_81 : decode cX7_ofLorry 81 = .ok (.getfield 21, 3) := by decide +kernel
theorem dX7_ofLorry_84 : decode cX7_ofLorry 84 = .ok (.iload_n 1, 1) := by decide +kernel
theorem dX7_ofLorry_85 : decode cX7_ofLorry 85 = .ok (.bipush (-6), 2) := by decide +kernel
theorem dX7_ofLorry_87 : decode cX7_ofLorry 87 = .ok (.iconst 0, 1) := by decide +kernel
theorem dX7_ofLorry_88 : decode cX7_ofLorry 88 = .ok (.invokevirtual 133, 3) := by decide +kernel
theorem dX7_ofLorry_91 : decode cX7_ofLorry 91 = .ok (.invokestatic 127, 3) := by decide +kernel
theorem dX7_ofLorry_94 : decode cX7_ofLorry 94 = .ok (.ireturn, 1) := by decide +kernel
theorem dX7_ofLorry_95 : decode cX7_ofLorry 95 = .ok (.aload_n 0, 1) := by decide +kernel
theorem dX7_ofLorry_96 : decode cX7_ofLorry 96 = .ok (.getfield 21, 3) := by decide +kernel
theorem dX7_ofLorry_99 : decode cX7_ofLorry 99 = .ok (.iload_n 1, 1) := by decide +kernel
theorem dX7_ofLorry_100 : decode cX7_ofLorry 100 = .ok (.invokevirtual 136, 3) := by decide +kernel
theorem dX7_ofLorry_103 : decode cX7_ofLorry 103 = .ok (.ireturn, 1) := by decide +kernel
theorem dX7_ofLorry_104 : decode cX7_ofLorry 104 = .ok (.aload_n 0, 1) := by decide +kernel
theorem dX7_ofLorry_105 : decode cX7_ofLorry 105 = .ok (.getfield 12, 3) := by decide +kernel
theorem dX7_ofLorry_108 : decode cX7_ofLorry 108 = .ok (.iload_n 1, 1) := by decide +kernel
theorem dX7_ofLorry_109 : decode cX7_ofLorry 109 = .ok (.iconst 0, 1) := by decide +kernel
theorem dX7_ofLorry_110 : decode cX7_ofLorry 110 = .ok (.invokevirtual 139, 3) := by decide +kernel
theorem dX7_ofLorry_113 : decode cX7_ofLorry 113 = .ok (.ireturn, 1) := by decide +kernel
theorem dX7_ofLorry_114 : decode cX7_ofLorry 114 = .ok (.aload_n 0, 1) := by decide +kernel
theorem dX7_ofLorry_115 : decode cX7_ofLorry 115 = .ok (.getfield 12, 3) := by decide +kernel
theorem dX7_ofLorry_118 : decode cX7_ofLorry 118 = .ok (.iload_n 1, 1) := by decide +kernel
theorem dX7_ofLorry_119 : decode cX7_ofLorry 119 = .ok (.iconst 1, 1) := by decide +kernel
theorem dX7_ofLorry_120 : decode cX7_ofLorry 120 = .ok (.invokevirtual 139, 3) := by decide +kernel
theorem dX7_ofLorry_123 : decode cX7_ofLorry 123 = .ok (.ireturn, 1) := by decide +kernel
theorem dX7_ofLorry_124 : decode cX7_ofLorry 124 = .ok (.aload_n 0, 1) := by decide +kernel
theorem dX7_ofLorry_125 : decode cX7_ofLorry 125 = .ok (.getfield 12, 3) := by decide +kernel
theorem dX7_ofLorry_128 : decode cX7_ofLorry 128 = .ok (.iload_n 1, 1) := by decide +kernel
theorem dX7_ofLorry_129 : decode cX7_ofLorry 129 = .ok (.iconst 2, 1) := by decide +kernel
theorem dX7_ofLorry_130 : decode cX7_ofLorry 130 = .ok (.invokevirtual 139, 3) := by decide +kernel
theorem dX7_ofLorry_133 : decode cX7_ofLorry 133 = .ok (.ireturn, 1) := by decide +kernel
theorem dX7_ofLorry_134 : decode cX7_ofLorry 134 = .ok (.aload_n 0, 1) := by decide +kernel
theorem dX7_ofLorry_135 : decode cX7_ofLorry 135 = .ok (.getfield 12, 3) := by decide +kernel
theorem dX7_ofLorry_138 : decode cX7_ofLorry 138 = .ok (.iload_n 1, 1) := by decide +kernel
theorem dX7_ofLorry_139 : decode cX7_ofLorry 139 = .ok (.iconst 3, 1) := by decide +kernel
theorem dX7_ofLorry_140 : decode cX7_ofLorry 140 = .ok (.invokevirtual 139, 3) := by decide +kernel
theorem dX7_ofLorry_143 : decode cX7_ofLorry 143 = .ok (.ireturn, 1) := by decide +kernel
theorem dX7_ofLorry_144 : decode cX7_ofLorry 144 = .ok (.bipush (-2), 2) := by decide +kernel
theorem dX7_ofLorry_146 : decode cX7_ofLorry 146 = .ok (.ireturn, 1) := by decide +kernel
theorem dX7_count_0 : decode cX7_count 0 = .ok (.iload_n 1, 1) := by decide +kernel
theorem dX7_count_1 : decode cX7_count 1 = .ok (.tableswitch 254 0 16 #[83, 92, 102, 112, 121, 131, 150, 158, 166, 174, 191, 199, 208, 217, 229, 238, 246], 83) := by decide +kernel
theorem dX7_count_84 : decode cX7_count 84 = .ok (.aload_n 0, 1) := by decide +kernel
theorem dX7_count_85 : decode cX7_count 85 = .ok (.getfield 12, 3) := by decide +kernel
theorem dX7_count_88 : decode cX7_count 88 = .ok (.iconst 5, 1) := by decide +kernel
theorem dX7_count_89 : decode cX7_count 89 = .ok (.invokevirtual 142, 3) := by decide +kernel
theorem dX7_count_92 : decode cX7_count 92 = .ok (.ireturn, 1) := by decide +kernel
theorem dX7_count_93 : decode cX7_count 93 = .ok (.aload_n 0, 1) := by decide +kernel
theorem dX7_count_94 : decode cX7_count 94 = .ok (.getfield 12, 3) := by decide +kernel
theorem dX7_count_97 : decode cX7_count 97 = .ok (.bipush 6, 2) := by decide +kernel
theorem dX7_count_99 : decode cX7_count 99 = .ok (.invokevirtual 142, 3) := by decide +kernel
theorem dX7_count_102 : decode cX7_count 102 = .ok (.ireturn, 1) := by decide +kernel
theorem dX7_count_103 : decode cX7_count 103 = .ok (.aload_n 0, 1) := by decide +kernel
theorem dX7_count_104 : decode cX7_count 104 = .ok (.getfield 12, 3) := by decide +kernel
theorem dX7_count_107 : decode cX7_count 107 = .ok (.bipush 7, 2) := by decide +kernel
theorem dX7_count_109 : decode cX7_count 109 = .ok (.invokevirtual 142, 3) := by decide +kernel
theorem dX7_count_112 : decode cX7_count 112 = .ok (.ireturn, 1) := by decide +kernel
theorem dX7_count_113 : decode cX7_count 113 = .ok (.aload_n 0, 1) := by decide +kernel
theorem dX7_count_114 : decode cX7_count 114 = .ok (.getfield 12, 3) := by decide +kernel
theorem dX7_count_117 : decode cX7_count 117 = .ok (.iconst 4, 1) := by decide +kernel
theorem dX7_count_118 : decode cX7_count 118 = .ok (.invokevirtual 142, 3) := by decide +kernel
theorem dX7_count_121 : decode cX7_count 121 = .ok (.ireturn, 1) := by decide +kernel
theorem dX7_count_122 : decode cX7_count 122 = .ok (.aload_n 0, 1) := by decide +kernel
theorem dX7_count_123 : decode cX7_count 123 = .ok (.getfield 12, 3) := by decide +kernel
theorem dX7_count_126 : decode cX7_count 126 = .ok (.iconst 5, 1) := by decide +kernel
theorem dX7_count_127 : decode cX7_count 127 = .ok (.iconst 1, 1) := by decide +kernel
theorem dX7_count_128 : decode cX7_count 128 = .ok (.invokevirtual 145, 3) := by decide +kernel
theorem dX7_count_131 : decode cX7_count 131 = .ok (.ireturn, 1) := by decide +kernel
theorem dX7_count_132 : decode cX7_count 132 = .ok (.aload_n 0, 1) := by decide +kernel
theorem dX7_count_133 : decode cX7_count 133 = .ok (.getfield 12, 3) := by decide +kernel
theorem dX7_count_136 : decode cX7_count 136 = .ok (.bipush 7, 2) := by decide +kernel
theorem dX7_count_138 : decode cX7_count 138 = .ok (.iconst 1, 1) := by decide +kernel
theorem dX7_count_139 : decode cX7_count 139 = .ok (.invokevirtual 145, 3) := by decide +kernel
theorem dX7_count_142 : decode cX7_count 142 = .ok (.aload_n 0, 1) := by decide +kernel
theorem dX7_count_143 : decode cX7_count 143 = .ok (.getfield 21, 3) := by decide +kernel
theorem dX7_count_146 : decode cX7_count 146 = .ok (.invokevirtual 148, 3) := by decide +kernel
theorem dX7_count_149 : decode cX7_count 149 = .ok (.iand, 1) := by decide +kernel
theorem dX7_count_150 : decode cX7_count 150 = .ok (.ireturn, 1) := by decide +kernel
theorem dX7_count_151 : decode cX7_count 151 = .ok (.aload_n 0, 1) := by decide +kernel
theorem dX7_count_152 : decode cX7_count 152 = .ok (.getfield 21, 3) := by decide +kernel
theorem dX7_count_155 : decode cX7_count 155 = .ok (.invokevirtual 152, 3) := by decide +kernel
theorem dX7_count_158 : decode cX7_count 158 = .ok (.ireturn, 1) := by decide +kernel
theorem dX7_count_159 : decode cX7_count 159 = .ok (.aload_n 0, 1) := by decide +kernel
theorem dX7_count_160 : decode cX7_count 160 = .ok (.getfield 21, 3) := by decide +kernel
theorem dX7_count_163 : decode cX7_count 163 = .ok (.invokevirtual 155, 3) := by decide +kernel
theorem dX7_count_166 : decode cX7_count 166 = .ok (.ireturn, 1) := by decide +kernel
theorem dX7_count_167 : decode cX7_count 167 = .ok (.aload_n 0, 1) := by decide +kernel
theorem dX7_count_168 : decode cX7_count 168 = .ok (.getfield 21, 3) := by decide +kernel
theorem dX7_count_171 : decode cX7_count 171 = .ok (.invokevirtual 158, 3) := by decide +kernel
theorem dX7_count_174 : decode cX7_count 174 = .ok (.ireturn, 1) := by decide +kernel
theorem dX7_count_175 : decode cX7_count 175 = .ok (.aload_n 0, 1) := by decide +kernel
theorem dX7_count_176 : decode cX7_count 176 = .ok (.getfield 21, 3) := by decide +kernel
theorem dX7_count_179 : decode cX7_count 179 = .ok (.aload_n 0, 1) := by decide +kernel
theorem dX7_count_180 : decode cX7_count 180 = .ok (.getfield 12, 3) := by decide +kernel
theorem dX7_count_183 : decode cX7_count 183 = .ok (.iconst 5, 1) := by decide +kernel
theorem dX7_count_184 : decode cX7_count 184 = .ok (.iconst 3, 1) := by decide +kernel
theorem dX7_count_185 : decode cX7_count 185 = .ok (.invokevirtual 145, 3) := by decide +kernel
theorem dX7_count_188 : decode cX7_count 188 = .ok (.invokevirtual 161, 3) := by decide +kernel
theorem dX7_count_191 : decode cX7_count 191 = .ok (.ireturn, 1) := by decide +kernel
theorem dX7_count_192 : decode cX7_count 192 = .ok (.aload_n 0, 1) := by decide +kernel
theorem dX7_count_193 : decode cX7_count 193 = .ok (.getfield 21, 3) := by decide +kernel
theorem dX7_count_196 : decode cX7_count 196 = .ok (.invokevirtual 164, 3) := by decide +kernel
theorem dX7_count_199 : decode cX7_count 199 = .ok (.ireturn, 1) := by decide +kernel
theorem dX7_count_200 : decode cX7_count 200 = .ok (.aload_n 0, 1) := by decide +kernel
theorem dX7_count_201 : decode cX7_count 201 = .ok (.getfield 12, 3) := by decide +kernel
theorem dX7_count_204 : decode cX7_count 204 = .ok (.iconst 1, 1) := by decide +kernel
theorem dX7_count_205 : decode cX7_count 205 = .ok (.invokevirtual 142, 3) := by decide +kernel
theorem dX7_count_208 : decode cX7_count 208 = .ok (.ireturn, 1) := by decide +kernel
theorem dX7_count_209 : decode cX7_count 209 = .ok (.aload_n 0, 1) := by decide +kernel
theorem dX7_count_210 : decode cX7_count 210 = .ok (.getfield 12, 3) := by decide +kernel
theorem dX7_count_213 : decode cX7_count 213 = .ok (.iconst 0, 1) := by decide +kernel
theorem dX7_count_214 : decode cX7_count 214 = .ok (.invokevirtual 142, 3) := by decide +kernel
theorem dX7_count_217 : decode cX7_count 217 = .ok (.ireturn, 1) := by decide +kernel
theorem dX7_count_218 : decode cX7_count 218 = .ok (.aload_n 0, 1) := by decide +kernel
theorem dX7_count_219 : decode cX7_count 219 = .ok (.getfield 12, 3) := by decide +kernel
theorem dX7_count_222 : decode cX7_count 222 = .ok (.iconst 2, 1) := by decide +kernel
theorem dX7_count_223 : decode cX7_count 223 = .ok (.invokevirtual 142, 3) := by decide +kernel
theorem dX7_count_226 : decode cX7_count 226 = .ok (.bipush 100, 2) := by decide +kernel
theorem dX7_count_228 : decode cX7_count 228 = .ok (.iadd, 1) := by decide +kernel
theorem dX7_count_229 : decode cX7_count 229 = .ok (.ireturn, 1) := by decide +kernel
theorem dX7_count_230 : decode cX7_count 230 = .ok (.aload_n 0, 1) := by decide +kernel
theorem dX7_count_231 : decode cX7_count 231 = .ok (.getfield 12, 3) := by decide +kernel
theorem dX7_count_234 : decode cX7_count 234 = .ok (.iconst 3, 1) := by decide +kernel
theorem dX7_count_235 : decode cX7_count 235 = .ok (.invokevirtual 142, 3) := by decide +kernel
theorem dX7_count_238 : decode cX7_count 238 = .ok (.ireturn, 1) := by decide +kernel
theorem dX7_count_239 : decode cX7_count 239 = .ok (.aload_n 0, 1) := by decide +kernel
theorem dX7_count_240 : decode cX7_count 240 = .ok (.getfield 51, 3) := by decide +kernel
theorem dX7_count_243 : decode cX7_count 243 = .ok (.invokevirtual 167, 3) := by decide +kernel
theorem dX7_count_246 : decode cX7_count 246 = .ok (.ireturn, 1) := by decide +kernel
theorem dX7_count_247 : decode cX7_count 247 = .ok (.aload_n 0, 1) := by decide +kernel
theorem dX7_count_248 : decode cX7_count 248 = .ok (.getfield 37, 3) := by decide +kernel
theorem dX7_count_251 : decode cX7_count 251 = .ok (.invokevirtual 170, 3) := by decide +kernel
theorem dX7_count_254 : decode cX7_count 254 = .ok (.ireturn, 1) := by decide +kernel
theorem dX7_count_255 : decode cX7_count 255 = .ok (.bipush (-2), 2) := by decide +kernel
theorem dX7_count_257 : decode cX7_count 257 = .ok (.ireturn, 1) := by decide +kernel
theorem dX7_meanWeight_0 : decode cX7_meanWeight 0 = .ok (.aload_n 0, 1) := by decide +kernel
theorem dX7_meanWeight_1 : decode cX7_meanWeight 1 = .ok (.getfield 21, 3) := by decide +kernel
theorem dX7_meanWeight_4 : decode cX7_meanWeight 4 = .ok (.invokevirtual 148, 3) := by decide +kernel
theorem dX7_meanWeight_7 : decode cX7_meanWeight 7 = .ok (.invokestatic 173, 3) := by decide +kernel
theorem dX7_meanWeight_10 : decode cX7_meanWeight 10 = .ok (.istore_n 1, 1) := by decide +kernel
theorem dX7_meanWeight_11 : decode cX7_meanWeight 11 = .ok (.iload_n 1, 1) := by decide +kernel
theorem dX7_meanWeight_12 : decode cX7_meanWeight 12 = .ok (.ifCond .ne 7, 3) := by decide +kernel
theorem dX7_meanWeight_15 : decode cX7_meanWeight 15 = .ok (.lconst 0, 1) := by decide +kernel
theorem dX7_meanWeight_16 : decode cX7_meanWeight 16 = .ok (.goto 17, 3) := by decide +kernel
theorem dX7_meanWeight_19 : decode cX7_meanWeight 19 = .ok (.aload_n 0, 1) := by decide +kernel
theorem dX7_meanWeight_20 : decode cX7_meanWeight 20 = .ok (.getfield 21, 3) := by decide +kernel
theorem dX7_meanWeight_23 : decode cX7_meanWeight 23 = .ok (.invokevirtual 155, 3) := by decide +kernel
theorem dX7_meanWeight_26 : decode cX7_meanWeight 26 = .ok (.i2d, 1) := by decide +kernel
theorem dX7_meanWeight_27 : decode cX7_meanWeight 27 = .ok (.iload_n 1, 1) := by decide +kernel
theorem dX7_meanWeight_28 : decode cX7_meanWeight 28 = .ok (.i2d, 1) := by decide +kernel
theorem dX7_meanWeight_29 : decode cX7_meanWeight 29 = .ok (.ddiv, 1) := by decide +kernel
theorem dX7_meanWeight_30 : decode cX7_meanWeight 30 = .ok (.invokestatic 178, 3) := by decide +kernel
theorem dX7_meanWeight_33 : decode cX7_meanWeight 33 = .ok (.lreturn, 1) := by decide +kernel
theorem dX7_why_0 : decode cX7_why 0 = .ok (.iload_n 1, 1) := by decide +kernel
theorem dX7_why_1 : decode cX7_why 1 = .ok (.invokestatic 117, 3) := by decide +kernel
theorem dX7_why_4 : decode cX7_why 4 = .ok (.ifCond .eq 14, 3) := by decide +kernel
theorem dX7_why_7 : decode cX7_why 7 = .ok (.aload_n 0, 1) := by decide +kernel
theorem dX7_why_8 : decode cX7_why 8 = .ok (.getfield 21, 3) := by decide +kernel
theorem dX7_why_11 : decode cX7_why 11 = .ok (.iload_n 1, 1) := by decide +kernel
theorem dX7_why_12 : decode cX7_why 12 = .ok (.invokevirtual 182, 3) := by decide +kernel
theorem dX7_why_15 : decode cX7_why 15 = .ok (.goto 4, 3) := by decide +kernel
theorem dX7_why_18 : decode cX7_why 18 = .ok (.iconst (-1), 1) := by decide +kernel
theorem dX7_why_19 : decode cX7_why 19 = .ok (.ireturn, 1) := by decide +kernel
theorem dX7_bestBlock_0 : decode cX7_bestBlock 0 = .ok (.aload_n 0, 1) := by decide +kernel
theorem dX7_bestBlock_1 : decode cX7_bestBlock 1 = .ok (.getfield 12, 3) := by decide +kernel
theorem dX7_bestBlock_4 : decode cX7_bestBlock 4 = .ok (.iload_n 1, 1) := by decide +kernel
theorem dX7_bestBlock_5 : decode cX7_bestBlock 5 = .ok (.invokevirtual 108, 3) := by decide +kernel
theorem dX7_bestBlock_8 : decode cX7_bestBlock 8 = .ok (.ifCond .ne 5, 3) := by decide +kernel
theorem dX7_bestBlock_11 : decode cX7_bestBlock 11 = .ok (.iconst (-1), 1) := by decide +kernel
theorem dX7_bestBlock_12 : decode cX7_bestBlock 12 = .ok (.ireturn, 1) := by decide +kernel
theorem dX7_bestBlock_13 : decode cX7_bestBlock 13 = .ok (.aload_n 0, 1) := by decide +kernel
theorem dX7_bestBlock_14 : decode cX7_bestBlock 14 = .ok (.getfield 12, 3) := by decide +kernel
theorem dX7_bestBlock_17 : decode cX7_bestBlock 17 = .ok (.iload_n 1, 1) := by decide +kernel
theorem dX7_bestBlock_18 : decode cX7_bestBlock 18 = .ok (.iconst 3, 1) := by decide +kernel
theorem dX7_bestBlock_19 : decode cX7_bestBlock 19 = .ok (.invokevirtual 114, 3) := by decide +kernel
theorem dX7_bestBlock_22 : decode cX7_bestBlock 22 = .ok (.ifCond .ne 14, 3) := by decide +kernel
theorem dX7_bestBlock_25 : decode cX7_bestBlock 25 = .ok (.aload_n 0, 1) := by decide +kernel
theorem dX7_bestBlock_26 : decode cX7_bestBlock 26 = .ok (.getfield 21, 3) := by decide +kernel
theorem dX7_bestBlock_29 : decode cX7_bestBlock 29 = .ok (.iload_n 1, 1) := by decide +kernel
theorem dX7_bestBlock_30 : decode cX7_bestBlock 30 = .ok (.invokevirtual 185, 3) := by decide +kernel
theorem dX7_bestBlock_33 : decode cX7_bestBlock 33 = .ok (.goto 5, 3) := by decide +kernel
theorem dX7_bestBlock_36 : decode cX7_bestBlock 36 = .ok (.bipush (-5), 2) := by decide +kernel
theorem dX7_bestBlock_38 : decode cX7_bestBlock 38 = .ok (.ireturn, 1) := by decide +kernel
theorem dX7_fittingCut_0 : decode cX7_fittingCut 0 = .ok (.aload_n 0, 1) := by decide +kernel
theorem dX7_fittingCut_1 : decode cX7_fittingCut 1 = .ok (.getfield 12, 3) := by decide +kernel
theorem dX7_fittingCut_4 : decode cX7_fittingCut 4 = .ok (.iload_n 1, 1) := by decide +kernel
theorem dX7_fittingCut_5 : decode cX7_fittingCut 5 = .ok (.invokevirtual 108, 3) := by decide +kernel
theorem dX7_fittingCut_8 : decode cX7_fittingCut 8 = .ok (.ifCond .eq 14, 3) := by decide +kernel
theorem dX7_fittingCut_11 : decode cX7_fittingCut 11 = .ok (.aload_n 0, 1) := by decide +kernel
theorem dX7_fittingCut_12 : decode cX7_fittingCut 12 = .ok (.getfield 12, 3) := by decide +kernel
theorem dX7_fittingCut_15 : decode cX7_fittingCut 15 = .ok (.iload_n 2, 1) := by decide +kernel
theorem dX7_fittingCut_16 : decode cX7_fittingCut 16 = .ok (.invokevirtual 101, 3) := by decide +kernel
theorem dX7_fittingCut_19 : decode cX7_fittingCut 19 = .ok (.ifCond .ne 5, 3) := by decide +kernel
theorem dX7_fittingCut_22 : decode cX7_fittingCut 22 = .ok (.iconst (-1), 1) := by decide +kernel
theorem dX7_fittingCut_23 : decode cX7_fittingCut 23 = .ok (.ireturn, 1) := by decide +kernel
theorem dX7_fittingCut_24 : decode cX7_fittingCut 24 = .ok (.iload_n 3, 1) := by decide +kernel
theorem dX7_fittingCut_25 : decode cX7_fittingCut 25 = .ok (.ifCond .eq 11, 3) := by decide +kernel
theorem dX7_fittingCut_28 : decode cX7_fittingCut 28 = .ok (.iload_n 3, 1) := by decide +kernel
theorem dX7_fittingCut_29 : decode cX7_fittingCut 29 = .ok (.iconst 1, 1) := by decide +kernel
theorem dX7_fittingCut_30 : decode cX7_fittingCut 30 = .ok (.if_icmp .eq 6, 3) := by decide +kernel
theorem dX7_fittingCut_33 : decode cX7_fittingCut 33 = .ok (.bipush (-2), 2) := by decide +kernel
theorem dX7_fittingCut_35 : decode cX7_fittingCut 35 = .ok (.ireturn, 1) := by decide +kernel
theorem dX7_fittingCut_36 : decode cX7_fittingCut 36 = .ok (.aload_n 0, 1) := by decide +kernel
theorem dX7_fittingCut_37 : decode cX7_fittingCut 37 = .ok (.getfield 21, 3) := by decide +kernel
theorem dX7_fittingCut_40 : decode cX7_fittingCut 40 = .ok (.iload_n 2, 1) := by decide +kernel
theorem dX7_fittingCut_41 : decode cX7_fittingCut 41 = .ok (.invokevirtual 188, 3) := by decide +kernel
theorem dX7_fittingCut_44 : decode cX7_fittingCut 44 = .ok (.ifCond .ne 6, 3) := by decide +kernel
theorem dX7_fittingCut_47 : decode cX7_fittingCut 47 = .ok (.bipush (-5), 2) := by decide +kernel
theorem dX7_fittingCut_49 : decode cX7_fittingCut 49 = .ok (.ireturn, 1) := by decide +kernel
theorem dX7_fittingCut_50 : decode cX7_fittingCut 50 = .ok (.iconst 0, 1) := by decide +kernel
theorem dX7_fittingCut_51 : decode cX7_fittingCut 51 = .ok (.istore 4, 2) := by decide +kernel
theorem dX7_fittingCut_53 : decode cX7_fittingCut 53 = .ok (.iload 4, 2) := by decide +kernel
theorem dX7_fittingCut_55 : decode cX7_fittingCut 55 = .ok (.iconst 3, 1) := by decide +kernel
theorem dX7_fittingCut_56 : decode cX7_fittingCut 56 = .ok (.if_icmp .ge 41, 3) := by decide +kernel
theorem dX7_fittingCut_59 : decode cX7_fittingCut 59 = .ok (.aload_n 0, 1) := by decide +kernel
theorem dX7_fittingCut_60 : decode cX7_fittingCut 60 = .ok (.getfield 21, 3) := by decide +kernel
theorem dX7_fittingCut_63 : decode cX7_fittingCut 63 = .ok (.iload_n 1, 1) := by decide +kernel
theorem dX7_fittingCut_64 : decode cX7_fittingCut 64 = .ok (.iload_n 2, 1) := by decide +kernel
theorem dX7_fittingCut_65 : decode cX7_fittingCut 65 = .ok (.iload 4, 2) := by decide +kernel
theorem dX7_fittingCut_67 : decode cX7_fittingCut 67 = .ok (.invokevirtual 191, 3) := by decide +kernel
theorem dX7_fittingCut_70 : decode cX7_fittingCut 70 = .ok (.istore 5, 2) := by decide +kernel
theorem dX7_fittingCut_72 : decode cX7_fittingCut 72 = .ok (.iload 5, 2) := by decide +kernel
theorem dX7_fittingCut_74 : decode cX7_fittingCut 74 = .ok (.bipush (-6), 2) := by decide +kernel
theorem dX7_fittingCut_76 : decode cX7_fittingCut 76 = .ok (.if_icmp .eq 15, 3) := by decide +kernel
theorem dX7_fittingCut_79 : decode cX7_fittingCut 79 = .ok (.iload_n 3, 1) := by decide +kernel
theorem dX7_fittingCut_80 : decode cX7_fittingCut 80 = .ok (.ifCond .ne 8, 3) := by decide +kernel
theorem dX7_fittingCut_83 : decode cX7_fittingCut 83 = .ok (.iload 4, 2) := by decide +kernel
theorem dX7_fittingCut_85 : decode cX7_fittingCut 85 = .ok (.goto 5, 3) := by decide +kernel
theorem dX7_fittingCut_88 : decode cX7_fittingCut 88 = .ok (.iload 5, 2) := by decide +kernel
theorem dX7_fittingCut_90 : decode cX7_fittingCut 90 = .ok (.ireturn, 1) := by decide +kernel
theorem dX7_fittingCut_91 : decode cX7_fittingCut 91 = .ok (.iinc 4 1, 3) := by decide +kernel
theorem dX7_fittingCut_94 : decode cX7_fittingCut 94 = .ok (.goto (-41), 3) := by decide +kernel
theorem dX7_fittingCut_97 : decode cX7_fittingCut 97 = .ok (.bipush (-6), 2) := by decide +kernel
theorem dX7_fittingCut_99 : decode cX7_fittingCut 99 = .ok (.ireturn, 1) := by decide +kernel
theorem dX7_ifFrost_0 : decode cX7_ifFrost 0 = .ok (.aload_n 0, 1) := by decide +kernel
theorem dX7_ifFrost_1 : decode cX7_ifFrost 1 = .ok (.getfield 21, 3) := by decide +kernel
theorem dX7_ifFrost_4 : decode cX7_ifFrost 4 = .ok (.invokevirtual 194, 3) := by decide +kernel
theorem dX7_ifFrost_7 : decode cX7_ifFrost 7 = .ok (.aload_n 0, 1) := by decide +kernel
theorem dX7_ifFrost_8 : decode cX7_ifFrost 8 = .ok (.getfield 12, 3) := by decide +kernel
theorem dX7_ifFrost_11 : decode cX7_ifFrost 11 = .ok (.bipush 7, 2) := by decide +kernel
theorem dX7_ifFrost_13 : decode cX7_ifFrost 13 = .ok (.iconst 0, 1) := by decide +kernel
theorem dX7_ifFrost_14 : decode cX7_ifFrost 14 = .ok (.invokevirtual 145, 3) := by decide +kernel
theorem dX7_ifFrost_17 : decode cX7_ifFrost 17 = .ok (.iand, 1) := by decide +kernel
theorem dX7_ifFrost_18 : decode cX7_ifFrost 18 = .ok (.ireturn, 1) := by decide +kernel
theorem dX7_bestPlace_0 : decode cX7_bestPlace 0 = .ok (.aload_n 0, 1) := by decide +kernel
theorem dX7_bestPlace_1 : decode cX7_bestPlace 1 = .ok (.getfield 12, 3) := by decide +kernel
theorem dX7_bestPlace_4 : decode cX7_bestPlace 4 = .ok (.iload_n 1, 1) := by decide +kernel
theorem dX7_bestPlace_5 : decode cX7_bestPlace 5 = .ok (.invokevirtual 101, 3) := by decide +kernel
theorem dX7_bestPlace_8 : decode cX7_bestPlace 8 = .ok (.ifCond .eq 10, 3) := by decide +kernel
theorem dX7_bestPlace_11 : decode cX7_bestPlace 11 = .ok (.iload_n 2, 1) := by decide +kernel
theorem dX7_bestPlace_12 : decode cX7_bestPlace 12 = .ok (.invokestatic 117, 3) := by decide +kernel
theorem dX7_bestPlace_15 : decode cX7_bestPlace 15 = .ok (.ifCond .ne 5, 3) := by decide +kernel
theorem dX7_bestPlace_18 : decode cX7_bestPlace 18 = .ok (.iconst (-1), 1) := by decide +kernel
theorem dX7_bestPlace_19 : decode cX7_bestPlace 19 = .ok (.ireturn, 1) := by decide +kernel
theorem dX7_bestPlace_20 : decode cX7_bestPlace 20 = .ok (.aload_n 0, 1) := by decide +kernel
theorem dX7_bestPlace_21 : decode cX7_bestPlace 21 = .ok (.getfield 21, 3) := by decide +kernel
theorem dX7_bestPlace_24 : decode cX7_bestPlace 24 = .ok (.iload_n 1, 1) := by decide +kernel
theorem dX7_bestPlace_25 : decode cX7_bestPlace 25 = .ok (.invokevirtual 197, 3) := by decide +kernel
theorem dX7_bestPlace_28 : decode cX7_bestPlace 28 = .ok (.ifCond .eq 15, 3) := by decide +kernel
theorem dX7_bestPlace_31 : decode cX7_bestPlace 31 = .ok (.aload_n 0, 1) := by decide +kernel
theorem dX7_bestPlace_32 : decode cX7_bestPlace 32 = .ok (.getfield 21, 3) := by decide +kernel
theorem dX7_bestPlace_35 : decode cX7_bestPlace 35 = .ok (.iload_n 1, 1) := by decide +kernel
theorem dX7_bestPlace_36 : decode cX7_bestPlace 36 = .ok (.iload_n 2, 1) := by decide +kernel
theorem dX7_bestPlace_37 : decode cX7_bestPlace 37 = .ok (.invokevirtual 200, 3) := by decide +kernel
theorem dX7_bestPlace_40 : decode cX7_bestPlace 40 = .ok (.goto 5, 3) := by decide +kernel
theorem dX7_bestPlace_43 : decode cX7_bestPlace 43 = .ok (.bipush (-5), 2) := by decide +kernel
theorem dX7_bestPlace_45 : decode cX7_bestPlace 45 = .ok (.ireturn, 1) := by decide +kernel
theorem dX7_put_0 : decode cX7_put 0 = .ok (.aload_n 0, 1) := by decide +kernel
theorem dX7_put_1 : decode cX7_put 1 = .ok (.getfield 51, 3) := by decide +kernel
theorem dX7_put_4 : decode cX7_put 4 = .ok (.lload_n 1, 1) := by decide +kernel
theorem dX7_put_5 : decode cX7_put 5 = .ok (.invokevirtual 203, 3) := by decide +kernel
theorem dX7_put_8 : decode cX7_put 8 = .ok (.ireturn, 1) := by decide +kernel
theorem dX7_wipe_0 : decode cX7_wipe 0 = .ok (.aload_n 0, 1) := by decide +kernel
theorem dX7_wipe_1 : decode cX7_wipe 1 = .ok (.getfield 51, 3) := by decide +kernel
theorem dX7_wipe_4 : decode cX7_wipe 4 = .ok (.invokevirtual 207, 3) := by decide +kernel
theorem dX7_wipe_7 : decode cX7_wipe 7 = .ok (.ireturn, 1) := by decide +kernel
theorem dX7_fault_0 : decode cX7_fault 0 = .ok (.aload_n 0, 1) := by decide +kernel
theorem dX7_fault_1 : decode cX7_fault 1 = .ok (.getfield 51, 3) := by decide +kernel
theorem dX7_fault_4 : decode cX7_fault 4 = .ok (.invokevirtual 210, 3) := by decide +kernel
theorem dX7_fault_7 : decode cX7_fault 7 = .ok (.ireturn, 1) := by decide +kernel
theorem dX7_carryOut_0 : decode cX7_carryOut 0 = .ok (.aload_n 0, 1) := by decide +kernel
theorem dX7_carryOut_1 : decode cX7_carryOut 1 = .ok (.getfield 51, 3) := by decide +kernel
theorem dX7_carryOut_4 : decode cX7_carryOut 4 = .ok (.invokevirtual 210, 3) := by decide +kernel
theorem dX7_carryOut_7 : decode cX7_carryOut 7 = .ok (.bipush (-6), 2) := by decide +kernel
theorem dX7_carryOut_9 : decode cX7_carryOut 9 = .ok (.if_icmp .eq 6, 3) := by decide +kernel
theorem dX7_carryOut_12 : decode cX7_carryOut 12 = .ok (.bipush (-3), 2) := by decide +kernel
theorem dX7_carryOut_14 : decode cX7_carryOut 14 = .ok (.ireturn, 1) := by decide +kernel
theorem dX7_carryOut_15 : decode cX7_carryOut 15 = .ok (.aload_n 0, 1) := by decide +kernel
theorem dX7_carryOut_16 : decode cX7_carryOut 16 = .ok (.getfield 37, 3) := by decide +kernel
theorem dX7_carryOut_19 : decode cX7_carryOut 19 = .ok (.aload_n 0, 1) := by decide +kernel
theorem dX7_carryOut_20 : decode cX7_carryOut 20 = .ok (.getfield 12, 3) := by decide +kernel
theorem dX7_carryOut_23 : decode cX7_carryOut 23 = .ok (.invokevirtual 55, 3) := by decide +kernel
theorem dX7_carryOut_26 : decode cX7_carryOut 26 = .ok (.aload_n 0, 1) := by decide +kernel
theorem dX7_carryOut_27 : decode cX7_carryOut 27 = .ok (.getfield 51, 3) := by decide +kernel
theorem dX7_carryOut_30 : decode cX7_carryOut 30 = .ok (.invokevirtual 213, 3) := by decide +kernel
theorem dX7_carryOut_33 : decode cX7_carryOut 33 = .ok (.iconst 0, 1) := by decide +kernel
theorem dX7_carryOut_34 : decode cX7_carryOut 34 = .ok (.istore_n 1, 1) := by decide +kernel
theorem dX7_carryOut_35 : decode cX7_carryOut 35 = .ok (.iload_n 1, 1) := by decide +kernel
theorem dX7_carryOut_36 : decode cX7_carryOut 36 = .ok (.bipush 80, 2) := by decide +kernel
theorem dX7_carryOut_38 : decode cX7_carryOut 38 = .ok (.if_icmp .ge 26, 3) := by decide +kernel
theorem dX7_carryOut_41 : decode cX7_carryOut 41 = .ok (.aload_n 0, 1) := by decide +kernel
theorem dX7_carryOut_42 : decode cX7_carryOut 42 = .ok (.getfield 51, 3) := by decide +kernel
theorem dX7_carryOut_45 : decode cX7_carryOut 45 = .ok (.invokevirtual 216, 3) := by decide +kernel
theorem dX7_carryOut_48 : decode cX7_carryOut 48 = .ok (.ifCond .eq 16, 3) := by decide +kernel
theorem dX7_carryOut_51 : decode cX7_carryOut 51 = .ok (.aload_n 0, 1) := by decide +kernel
theorem dX7_carryOut_52 : decode cX7_carryOut 52 = .ok (.invokevirtual 220, 3) := by decide +kernel
theorem dX7_carryOut_55 : decode cX7_carryOut 55 = .ok (.ifCond .lt 9, 3) := by decide +kernel
theorem dX7_carryOut_58 : decode cX7_carryOut 58 = .ok (.iinc 1 1, 3) := by decide +kernel
theorem dX7_carryOut_61 : decode cX7_carryOut 61 = .ok (.goto (-26), 3) := by decide +kernel
theorem dX7_carryOut_64 : decode cX7_carryOut 64 = .ok (.aload_n 0, 1) := by decide +kernel
theorem dX7_carryOut_65 : decode cX7_carryOut 65 = .ok (.getfield 51, 3) := by decide +kernel
theorem dX7_carryOut_68 : decode cX7_carryOut 68 = .ok (.invokevirtual 207, 3) := by decide +kernel
theorem dX7_carryOut_71 : decode cX7_carryOut 71 = .ok (.pop, 1) := by decide +kernel
theorem dX7_carryOut_72 : decode cX7_carryOut 72 = .ok (.aload_n 0, 1) := by decide +kernel
theorem dX7_carryOut_73 : decode cX7_carryOut 73 = .ok (.getfield 37, 3) := by decide +kernel
theorem dX7_carryOut_76 : decode cX7_carryOut 76 = .ok (.iload_n 1, 1) := by decide +kernel
theorem dX7_carryOut_77 : decode cX7_carryOut 77 = .ok (.invokevirtual 62, 3) := by decide +kernel
theorem dX7_carryOut_80 : decode cX7_carryOut 80 = .ok (.ireturn, 1) := by decide +kernel
theorem dX7_carryOrder_0 : decode cX7_carryOrder 0 = .ok (.aload_n 0, 1) := by decide +kernel
theorem dX7_carryOrder_1 : decode cX7_carryOrder 1 = .ok (.getfield 51, 3) := by decide +kernel
theorem dX7_carryOrder_4 : decode cX7_carryOrder 4 = .ok (.invokevirtual 223, 3) := by decide +kernel
theorem dX7_carryOrder_7 : decode cX7_carryOrder 7 = .ok (.tableswitch 265 99 113 #[113, 249, 265, 265, 177, 265, 265, 265, 265, 201, 265, 233, 145, 265, 73], 73) := by decide +kernel
theorem dX7_carryOrder_80 : decode cX7_carryOrder 80 = .ok (.aload_n 0, 1) := by decide +kernel
theorem dX7_carryOrder_81 : decode cX7_carryOrder 81 = .ok (.getfield 30, 3) := by decide +kernel
theorem dX7_carryOrder_84 : decode cX7_carryOrder 84 = .ok (.aload_n 0, 1) := by decide +kernel
theorem dX7_carryOrder_85 : decode cX7_carryOrder 85 = .ok (.getfield 51, 3) := by decide +kernel
theorem dX7_carryOrder_88 : decode cX7_carryOrder 88 = .ok (.iconst 0, 1) := by decide +kernel
theorem dX7_carryOrder_89 : decode cX7_carryOrder 89 = .ok (.invokevirtual 226, 3) := by decide +kernel
theorem dX7_carryOrder_92 : decode cX7_carryOrder 92 = .ok (.aload_n 0, 1) := by decide +kernel
theorem dX7_carryOrder_93 : decode cX7_carryOrder 93 = .ok (.getfield 51, 3) := by decide +kernel
theorem dX7_carryOrder_96 : decode cX7_carryOrder 96 = .ok (.iconst 1, 1) := by decide +kernel
theorem dX7_carryOrder_97 : decode cX7_carryOrder 97 = .ok (.invokevirtual 226, 3) := by decide +kernel
theorem dX7_carryOrder_100 : decode cX7_carryOrder 100 = .ok (.aload_n 0, 1) := by decide +kernel
theorem dX7_carryOrder_101 : decode cX7_carryOrder 101 = .ok (.getfield 51, 3) := by decide +kernel
theorem dX7_carryOrder_104 : decode cX7_carryOrder 104 = .ok (.iconst 2, 1) := by decide +kernel
theorem dX7_carryOrder_105 : decode cX7_carryOrder 105 = .ok (.invokevirtual 226, 3) := by decide +kernel
theorem dX7_carryOrder_108 : decode cX7_carryOrder 108 = .ok (.aload_n 0, 1) := by decide +kernel
theorem dX7_carryOrder_109 : decode cX7_carryOrder 109 = .ok (.getfield 51, 3) := by decide +kernel
theorem dX7_carryOrder_112 : decode cX7_carryOrder 112 = .ok (.iconst 3, 1) := by decide +kernel
theorem dX7_carryOrder_113 : decode cX7_carryOrder 113 = .ok (.invokevirtual 226, 3) := by decide +kernel
theorem dX7_carryOrder_116 : decode cX7_carryOrder 116 = .ok (.invokevirtual 66, 3) := by decide +kernel
theorem dX7_carryOrder_119 : decode cX7_carryOrder 119 = .ok (.ireturn, 1) := by decide +kernel
theorem dX7_carryOrder_120 : decode cX7_carryOrder 120 = .ok (.aload_n 0, 1) := by decide +kernel
theorem dX7_carryOrder_121 : decode cX7_carryOrder 121 = .ok (.getfield 30, 3) := by decide +kernel
theorem dX7_carryOrder_124 : decode cX7_carryOrder 124 = .ok (.aload_n 0, 1) := by decide +kernel
theorem dX7_carryOrder_125 : decode cX7_carryOrder 125 = .ok (.getfield 51, 3) := by decide +kernel
theorem dX7_carryOrder_128 : decode cX7_carryOrder 128 = .ok (.iconst 0, 1) := by decide +kernel
theorem dX7_carryOrder_129 : decode cX7_carryOrder 129 = .ok (.invokevirtual 226, 3) := by decide +kernel
theorem dX7_carryOrder_132 : decode cX7_carryOrder 132 = .ok (.aload_n 0, 1) := by decide +kernel
theorem dX7_carryOrder_133 : decode cX7_carryOrder 133 = .ok (.getfield 51, 3) := by decide +kernel
theorem dX7_carryOrder_136 : decode cX7_carryOrder 136 = .ok (.iconst 1, 1) := by decide +kernel
theorem dX7_carryOrder_137 : decode cX7_carryOrder 137 = .ok (.invokevirtual 226, 3) := by decide +kernel
theorem dX7_carryOrder_140 : decode cX7_carryOrder 140 = .ok (.aload_n 0, 1) := by decide +kernel
theorem dX7_carryOrder_141 : decode cX7_carryOrder 141 = .ok (.getfield 51, 3) := by decide +kernel
theorem dX7_carryOrder_144 : decode cX7_carryOrder 144 = .ok (.iconst 2, 1) := by decide +kernel
theorem dX7_carryOrder_145 : decode cX7_carryOrder 145 = .ok (.invokevirtual 226, 3) := by decide +kernel
theorem dX7_carryOrder_148 : decode cX7_carryOrder 148 = .ok (.invokevirtual 70, 3) := by decide +kernel
theorem dX7_carryOrder_151 : decode cX7_carryOrder 151 = .ok (.ireturn, 1) := by decide +kernel
theorem dX7_carryOrder_152 : decode cX7_carryOrder 152 = .ok (.aload_n 0, 1) := by decide +kernel
theorem dX7_carryOrder_153 : decode cX7_carryOrder 153 = .ok (.getfield 30, 3) := by decide +kernel
theorem dX7_carryOrder_156 : decode cX7_carryOrder 156 = .ok (.aload_n 0, 1) := by decide +kernel
theorem dX7_carryOrder_157 : decode cX7_carryOrder 157 = .ok (.getfield 51, 3) := by decide +kernel
theorem dX7_carryOrder_160 : decode cX7_carryOrder 160 = .ok (.iconst 0, 1) := by decide +kernel
theorem dX7_carryOrder_161 : decode cX7_carryOrder 161 = .ok (.invokevirtual 226, 3) := by decide +kernel
theorem dX7_carryOrder_164 : decode cX7_carryOrder 164 = .ok (.aload_n 0, 1) := by decide +kernel
theorem dX7_carryOrder_165 : decode cX7_carryOrder 165 = .ok (.getfield 51, 3) := by decide +kernel
theorem dX7_carryOrder_168 : decode cX7_carryOrder 168 = .ok (.iconst 1, 1) := by decide +kernel
theorem dX7_carryOrder_169 : decode cX7_carryOrder 169 = .ok (.invokevirtual 226, 3) := by decide +kernel
theorem dX7_carryOrder_172 : decode cX7_carryOrder 172 = .ok (.aload_n 0, 1) := by decide +kernel
theorem dX7_carryOrder_173 : decode cX7_carryOrder 173 = .ok (.getfield 51, 3) := by decide +kernel
theorem dX7_carryOrder_176 : decode cX7_carryOrder 176 = .ok (.iconst 2, 1) := by decide +kernel
theorem dX7_carryOrder_177 : decode cX7_carryOrder 177 = .ok (.invokevirtual 226, 3) := by decide +kernel
theorem dX7_carryOrder_180 : decode cX7_carryOrder 180 = .ok (.invokevirtual 77, 3) := by decide +kernel
theorem dX7_carryOrder_183 : decode cX7_carryOrder 183 = .ok (.ireturn, 1) := by decide +kernel
theorem dX7_carryOrder_184 : decode cX7_carryOrder 184 = .ok (.aload_n 0, 1) := by decide +kernel
theorem dX7_carryOrder_185 : decode cX7_carryOrder 185 = .ok (.getfield 30, 3) := by decide +kernel
theorem dX7_carryOrder_188 : decode cX7_carryOrder 188 = .ok (.aload_n 0, 1) := by decide +kernel
theorem dX7_carryOrder_189 : decode cX7_carryOrder 189 = .ok (.getfield 51, 3) := by decide +kernel
theorem dX7_carryOrder_192 : decode cX7_carryOrder 192 = .ok (.iconst 0, 1) := by decide +kernel
theorem dX7_carryOrder_193 : decode cX7_carryOrder 193 = .ok (.invokevirtual 226, 3) := by decide +kernel
theorem dX7_carryOrder_196 : decode cX7_carryOrder 196 = .ok (.aload_n 0, 1) := by decide +kernel
theorem dX7_carryOrder_197 : decode cX7_carryOrder 197 = .ok (.getfield 51, 3) := by decide +kernel
theorem dX7_carryOrder_200 : decode cX7_carryOrder 200 = .ok (.iconst 1, 1) := by decide +kernel
theorem dX7_carryOrder_201 : decode cX7_carryOrder 201 = .ok (.invokevirtual 226, 3) := by decide +kernel
theorem dX7_carryOrder_204 : decode cX7_carryOrder 204 = .ok (.invokevirtual 80, 3) := by decide +kernel
theorem dX7_carryOrder_207 : decode cX7_carryOrder 207 = .ok (.ireturn, 1) := by decide +kernel
theorem dX7_carryOrder_208 : decode cX7_carryOrder 208 = .ok (.aload_n 0, 1) := by decide +kernel
theorem dX7_carryOrder_209 : decode cX7_carryOrder 209 = .ok (.getfield 30, 3) := by decide +kernel
theorem dX7_carryOrder_212 : decode cX7_carryOrder 212 = .ok (.aload_n 0, 1) := by decide +kernel
theorem dX7_carryOrder_213 : decode cX7_carryOrder 213 = .ok (.getfield 51, 3) := by decide +kernel
theorem dX7_carryOrder_216 : decode cX7_carryOrder 216 = .ok (.iconst 0, 1) := by decide +kernel
theorem dX7_carryOrder_217 : decode cX7_carryOrder 217 = .ok (.invokevirtual 226, 3) := by decide +kernel
theorem dX7_carryOrder_220 : decode cX7_carryOrder 220 = .ok (.aload_n 0, 1) := by decide +kernel
theorem dX7_carryOrder_221 : decode cX7_carryOrder 221 = .ok (.getfield 51, 3) := by decide +kernel
theorem dX7_carryOrder_224 : decode cX7_carryOrder 224 = .ok (.iconst 1, 1) := by decide +kernel
theorem dX7_carryOrder_225 : decode cX7_carryOrder 225 = .ok (.invokevirtual 226, 3) := by decide +kernel
theorem dX7_carryOrder_228 : decode cX7_carryOrder 228 = .ok (.aload_n 0, 1) := by decide +kernel
theorem dX7_carryOrder_229 : decode cX7_carryOrder 229 = .ok (.getfield 51, 3) := by decide +kernel
theorem dX7_carryOrder_232 : decode cX7_carryOrder 232 = .ok (.iconst 2, 1) := by decide +kernel
theorem dX7_carryOrder_233 : decode cX7_carryOrder 233 = .ok (.invokevirtual 226, 3) := by decide +kernel
theorem dX7_carryOrder_236 : decode cX7_carryOrder 236 = .ok (.invokevirtual 89, 3) := by decide +kernel
theorem dX7_carryOrder_239 : decode cX7_carryOrder 239 = .ok (.ireturn, 1) := by decide +kernel
theorem dX7_carryOrder_240 : decode cX7_carryOrder 240 = .ok (.aload_n 0, 1) := by decide +kernel
theorem dX7_carryOrder_241 : decode cX7_carryOrder 241 = .ok (.getfield 30, 3) := by decide +kernel
theorem dX7_carryOrder_244 : decode cX7_carryOrder 244 = .ok (.aload_n 0, 1) := by decide +kernel
theorem dX7_carryOrder_245 : decode cX7_carryOrder 245 = .ok (.getfield 51, 3) := by decide +kernel
theorem dX7_carryOrder_248 : decode cX7_carryOrder 248 = .ok (.iconst 0, 1) := by decide +kernel
theorem dX7_carryOrder_249 : decode cX7_carryOrder 249 = .ok (.invokevirtual 226, 3) := by decide +kernel
theorem dX7_carryOrder_252 : decode cX7_carryOrder 252 = .ok (.invokevirtual 98, 3) := by decide +kernel
theorem dX7_carryOrder_255 : decode cX7_carryOrder 255 = .ok (.ireturn, 1) := by decide +kernel
theorem dX7_carryOrder_256 : decode cX7_carryOrder 256 = .ok (.aload_n 0, 1) := by decide +kernel
theorem dX7_carryOrder_257 : decode cX7_carryOrder 257 = .ok (.getfield 30, 3) := by decide +kernel
theorem dX7_carryOrder_260 : decode cX7_carryOrder 260 = .ok (.aload_n 0, 1) := by decide +kernel
theorem dX7_carryOrder_261 : decode cX7_carryOrder 261 = .ok (.getfield 51, 3) := by decide +kernel
theorem dX7_carryOrder_264 : decode cX7_carryOrder 264 = .ok (.iconst 0, 1) := by decide +kernel
theorem dX7_carryOrder_265 : decode cX7_carryOrder 265 = .ok (.invokevirtual 226, 3) := by decide +kernel
theorem dX7_carryOrder_268 : decode cX7_carryOrder 268 = .ok (.invokevirtual 95, 3) := by decide +kernel
theorem dX7_carryOrder_271 : decode cX7_carryOrder 271 = .ok (.ireturn, 1) := by decide +kernel
theorem dX7_carryOrder_272 : decode cX7_carryOrder 272 = .ok (.bipush (-3), 2) := by decide +kernel
theorem dX7_carryOrder_274 : decode cX7_carryOrder 274 = .ok (.ireturn, 1) := by decide +kernel
theorem dX7_undo_0 : decode cX7_undo 0 = .ok (.aload_n 0, 1) := by decide +kernel
theorem dX7_undo_1 : decode cX7_undo 1 = .ok (.getfield 37, 3) := by decide +kernel
theorem dX7_undo_4 : decode cX7_undo 4 = .ok (.aload_n 0, 1) := by decide +kernel
theorem dX7_undo_5 : decode cX7_undo 5 = .ok (.getfield 12, 3) := by decide +kernel
theorem dX7_undo_8 : decode cX7_undo 8 = .ok (.invokevirtual 229, 3) := by decide +kernel
theorem dX7_undo_11 : decode cX7_undo 11 = .ok (.ireturn, 1) := by decide +kernel
theorem dX7_save_0 : decode cX7_save 0 = .ok (.iload_n 1, 1) := by decide +kernel
theorem dX7_save_1 : decode cX7_save 1 = .ok (.invokestatic 233, 3) := by decide +kernel
theorem dX7_save_4 : decode cX7_save 4 = .ok (.ifCond .eq 18, 3) := by decide +kernel
theorem dX7_save_7 : decode cX7_save 7 = .ok (.aload_n 0, 1) := by decide +kernel
theorem dX7_save_8 : decode cX7_save 8 = .ok (.getfield 44, 3) := by decide +kernel
theorem dX7_save_11 : decode cX7_save 11 = .ok (.iload_n 1, 1) := by decide +kernel
theorem dX7_save_12 : decode cX7_save 12 = .ok (.aload_n 0, 1) := by decide +kernel
theorem dX7_save_13 : decode cX7_save 13 = .ok (.getfield 12, 3) := by decide +kernel
theorem dX7_save_16 : decode cX7_save 16 = .ok (.invokevirtual 236, 3) := by decide +kernel
theorem dX7_save_19 : decode cX7_save 19 = .ok (.goto 5, 3) := by decide +kernel
theorem dX7_save_22 : decode cX7_save 22 = .ok (.bipush (-2), 2) := by decide +kernel
theorem dX7_save_24 : decode cX7_save 24 = .ok (.ireturn, 1) := by decide +kernel
theorem dX7_restore_0 : decode cX7_restore 0 = .ok (.iload_n 1, 1) := by decide +kernel
theorem dX7_restore_1 : decode cX7_restore 1 = .ok (.invokestatic 233, 3) := by decide +kernel
theorem dX7_restore_4 : decode cX7_restore 4 = .ok (.ifCond .ne 6, 3) := by decide +kernel
theorem dX7_restore_7 : decode cX7_restore 7 = .ok (.bipush (-2), 2) := by decide +kernel
theorem dX7_restore_9 : decode cX7_restore 9 = .ok (.ireturn, 1) := by decide +kernel
theorem dX7_restore_10 : decode cX7_restore 10 = .ok (.aload_n 0, 1) := by decide +kernel
theorem dX7_restore_11 : decode cX7_restore 11 = .ok (.getfield 37, 3) := by decide +kernel
theorem dX7_restore_14 : decode cX7_restore 14 = .ok (.aload_n 0, 1) := by decide +kernel
theorem dX7_restore_15 : decode cX7_restore 15 = .ok (.getfield 12, 3) := by decide +kernel
theorem dX7_restore_18 : decode cX7_restore 18 = .ok (.invokevirtual 55, 3) := by decide +kernel
theorem dX7_restore_21 : decode cX7_restore 21 = .ok (.aload_n 0, 1) := by decide +kernel
theorem dX7_restore_22 : decode cX7_restore 22 = .ok (.getfield 37, 3) := by decide +kernel
theorem dX7_restore_25 : decode cX7_restore 25 = .ok (.aload_n 0, 1) := by decide +kernel
theorem dX7_restore_26 : decode cX7_restore 26 = .ok (.getfield 44, 3) := by decide +kernel
theorem dX7_restore_29 : decode cX7_restore 29 = .ok (.iload_n 1, 1) := by decide +kernel
theorem dX7_restore_30 : decode cX7_restore 30 = .ok (.aload_n 0, 1) := by decide +kernel
theorem dX7_restore_31 : decode cX7_restore 31 = .ok (.getfield 12, 3) := by decide +kernel
theorem dX7_restore_34 : decode cX7_restore 34 = .ok (.invokevirtual 240, 3) := by decide +kernel
theorem dX7_restore_37 : decode cX7_restore 37 = .ok (.invokevirtual 62, 3) := by decide +kernel
theorem dX7_restore_40 : decode cX7_restore 40 = .ok (.ireturn, 1) := by decide +kernel
theorem dX7_isLorry_0 : decode cX7_isLorry 0 = .ok (.iload_n 0, 1) := by decide +kernel
theorem dX7_isLorry_1 : decode cX7_isLorry 1 = .ok (.ifCond .lt 12, 3) := by decide +kernel
theorem dX7_isLorry_4 : decode cX7_isLorry 4 = .ok (.iload_n 0, 1) := by decide +kernel
theorem dX7_isLorry_5 : decode cX7_isLorry 5 = .ok (.iconst 3, 1) := by decide +kernel
theorem dX7_isLorry_6 : decode cX7_isLorry 6 = .ok (.if_icmp .ge 7, 3) := by decide +kernel
theorem dX7_isLorry_9 : decode cX7_isLorry 9 = .ok (.iconst 1, 1) := by decide +kernel
theorem dX7_isLorry_10 : decode cX7_isLorry 10 = .ok (.goto 4, 3) := by decide +kernel
theorem dX7_isLorry_13 : decode cX7_isLorry 13 = .ok (.iconst 0, 1) := by decide +kernel
theorem dX7_isLorry_14 : decode cX7_isLorry 14 = .ok (.ireturn, 1) := by decide +kernel
theorem dX7_isSlot_0 : decode cX7_isSlot 0 = .ok (.iload_n 0, 1) := by decide +kernel
theorem dX7_isSlot_1 : decode cX7_isSlot 1 = .ok (.ifCond .lt 12, 3) := by decide +kernel
theorem dX7_isSlot_4 : decode cX7_isSlot 4 = .ok (.iload_n 0, 1) := by decide +kernel
theorem dX7_isSlot_5 : decode cX7_isSlot 5 = .ok (.iconst 2, 1) := by decide +kernel
theorem dX7_isSlot_6 : decode cX7_isSlot 6 = .ok (.if_icmp .ge 7, 3) := by decide +kernel
theorem dX7_isSlot_9 : decode cX7_isSlot 9 = .ok (.iconst 1, 1) := by decide +kernel
theorem dX7_isSlot_10 : decode cX7_isSlot 10 = .ok (.goto 4, 3) := by decide +kernel
theorem dX7_isSlot_13 : decode cX7_isSlot 13 = .ok (.iconst 0, 1) := by decide +kernel
theorem dX7_isSlot_14 : decode cX7_isSlot 14 = .ok (.ireturn, 1) := by decide +kernel
theorem dX7_isSize_0 : decode cX7_isSize 0 = .ok (.iload_n 0, 1) := by decide +kernel
theorem dX7_isSize_1 : decode cX7_isSize 1 = .ok (.iconst 1, 1) := by decide +kernel
theorem dX7_isSize_2 : decode cX7_isSize 2 = .ok (.if_icmp .lt 14, 3) := by decide +kernel
theorem dX7_isSize_5 : decode cX7_isSize 5 = .ok (.iload_n 0, 1) := by decide +kernel
theorem dX7_isSize_6 : decode cX7_isSize 6 = .ok (.sipush 300, 3) := by decide +kernel
theorem dX7_isSize_9 : decode cX7_isSize 9 = .ok (.if_icmp .gt 7, 3) := by decide +kernel
theorem dX7_isSize_12 : decode cX7_isSize 12 = .ok (.iconst 1, 1) := by decide +kernel
theorem dX7_isSize_13 : decode cX7_isSize 13 = .ok (.goto 4, 3) := by decide +kernel
theorem dX7_isSize_16 : decode cX7_isSize 16 = .ok (.iconst 0, 1) := by decide +kernel
theorem dX7_isSize_17 : decode cX7_isSize 17 = .ok (.ireturn, 1) := by decide +kernel
theorem dX7_greatestOf_0 : decode cX7_greatestOf 0 = .ok (.iload_n 0, 1) := by decide +kernel
theorem dX7_greatestOf_1 : decode cX7_greatestOf 1 = .ok (.iload_n 1, 1) := by decide +kernel
theorem dX7_greatestOf_2 : decode cX7_greatestOf 2 = .ok (.iload_n 2, 1) := by decide +kernel
theorem dX7_greatestOf_3 : decode cX7_greatestOf 3 = .ok (.invokestatic 243, 3) := by decide +kernel
theorem dX7_greatestOf_6 : decode cX7_greatestOf 6 = .ok (.invokestatic 243, 3) := by decide +kernel
theorem dX7_greatestOf_9 : decode cX7_greatestOf 9 = .ok (.ireturn, 1) := by decide +kernel
theorem dX7_leastOf_0 : decode cX7_leastOf 0 = .ok (.iload_n 0, 1) := by decide +kernel
theorem dX7_leastOf_1 : decode cX7_leastOf 1 = .ok (.iload_n 1, 1) := by decide +kernel
theorem dX7_leastOf_2 : decode cX7_leastOf 2 = .ok (.iload_n 2, 1) := by decide +kernel
theorem dX7_leastOf_3 : decode cX7_leastOf 3 = .ok (.invokestatic 248, 3) := by decide +kernel
theorem dX7_leastOf_6 : decode cX7_leastOf 6 = .ok (.invokestatic 248, 3) := by decide +kernel
theorem dX7_leastOf_9 : decode cX7_leastOf 9 = .ok (.ireturn, 1) := by decide +kernel
theorem dX7_middleOf_0 : decode cX7_middleOf 0 = .ok (.iload_n 0, 1) := by decide +kernel
theorem dX7_middleOf_1 : decode cX7_middleOf 1 = .ok (.iload_n 1, 1) := by decide +kernel
theorem dX7_middleOf_2 : decode cX7_middleOf 2 = .ok (.iadd, 1) := by decide +kernel
theorem dX7_middleOf_3 : decode cX7_middleOf 3 = .ok (.iload_n 2, 1) := by decide +kernel
theorem dX7_middleOf_4 : decode cX7_middleOf 4 = .ok (.iadd, 1) := by decide +kernel
theorem dX7_middleOf_5 : decode cX7_middleOf 5 = .ok (.iload_n 0, 1) := by decide +kernel
theorem dX7_middleOf_6 : decode cX7_middleOf 6 = .ok (.iload_n 1, 1) := by decide +kernel
theorem dX7_middleOf_7 : decode cX7_middleOf 7 = .ok (.iload_n 2, 1) := by decide +kernel
theorem dX7_middleOf_8 : decode cX7_middleOf 8 = .ok (.invokestatic 251, 3) := by decide +kernel
theorem dX7_middleOf_11 : decode cX7_middleOf 11 = .ok (.isub, 1) := by decide +kernel
theorem dX7_middleOf_12 : decode cX7_middleOf 12 = .ok (.iload_n 0, 1) := by decide +kernel
theorem dX7_middleOf_13 : decode cX7_middleOf 13 = .ok (.iload_n 1, 1) := by decide +kernel
theorem dX7_middleOf_14 : decode cX7_middleOf 14 = .ok (.iload_n 2, 1) := by decide +kernel
theorem dX7_middleOf_15 : decode cX7_middleOf 15 = .ok (.invokestatic 254, 3) := by decide +kernel
theorem dX7_middleOf_18 : decode cX7_middleOf 18 = .ok (.isub, 1) := by decide +kernel
theorem dX7_middleOf_19 : decode cX7_middleOf 19 = .ok (.ireturn, 1) := by decide +kernel
theorem dX7_copyRow_0 : decode cX7_copyRow 0 = .ok (.aload_n 0, 1) := by decide +kernel
theorem dX7_copyRow_1 : decode cX7_copyRow 1 = .ok (.ifnull 23, 3) := by decide +kernel
theorem dX7_copyRow_4 : decode cX7_copyRow 4 = .ok (.aload_n 1, 1) := by decide +kernel
theorem dX7_copyRow_5 : decode cX7_copyRow 5 = .ok (.ifnull 19, 3) := by decide +kernel
theorem dX7_copyRow_8 : decode cX7_copyRow 8 = .ok (.aload_n 0, 1) := by decide +kernel
theorem dX7_copyRow_9 : decode cX7_copyRow 9 = .ok (.arraylength, 1) := by decide +kernel
theorem dX7_copyRow_10 : decode cX7_copyRow 10 = .ok (.aload_n 1, 1) := by decide +kernel
theorem dX7_copyRow_11 : decode cX7_copyRow 11 = .ok (.arraylength, 1) := by decide +kernel
theorem dX7_copyRow_12 : decode cX7_copyRow 12 = .ok (.if_icmp .ne 12, 3) := by decide +kernel
theorem dX7_copyRow_15 : decode cX7_copyRow 15 = .ok (.aload_n 0, 1) := by decide +kernel
theorem dX7_copyRow_16 : decode cX7_copyRow 16 = .ok (.iconst 0, 1) := by decide +kernel
theorem dX7_copyRow_17 : decode cX7_copyRow 17 = .ok (.aload_n 1, 1) := by decide +kernel
theorem dX7_copyRow_18 : decode cX7_copyRow 18 = .ok (.iconst 0, 1) := by decide +kernel
theorem dX7_copyRow_19 : decode cX7_copyRow 19 = .ok (.aload_n 0, 1) := by decide +kernel
theorem dX7_copyRow_20 : decode cX7_copyRow 20 = .ok (.arraylength, 1) := by decide +kernel
theorem dX7_copyRow_21 : decode cX7_copyRow 21 = .ok (.invokestatic 257, 3) := by decide +kernel
theorem dX7_copyRow_24 : decode cX7_copyRow 24 = .ok (.return_, 1) := by decide +kernel
theorem dX8_init_0 : decode cX8_init 0 = .ok (.aload_n 0, 1) := by decide +kernel
theorem dX8_init_1 : decode cX8_init 1 = .ok (.invokespecial 1, 3) := by decide +kernel
theorem dX8_init_4 : decode cX8_init 4 = .ok (.aload_n 0, 1) := by decide +kernel
theorem dX8_init_5 : decode cX8_init 5 = .ok (.sipush 324, 3) := by decide +kernel
theorem dX8_init_8 : decode cX8_init 8 = .ok (.newarray .int, 2) := by decide +kernel
theorem dX8_init_10 : decode cX8_init 10 = .ok (.putfield 7, 3) := by decide +kernel
theorem dX8_init_13 : decode cX8_init 13 = .ok (.aload_n 0, 1) := by decide +kernel
theorem dX8_init_14 : decode cX8_init 14 = .ok (.sipush 324, 3) := by decide +kernel
theorem dX8_init_17 : decode cX8_init 17 = .ok (.newarray .int, 2) := by decide +kernel
theorem dX8_init_19 : decode cX8_init 19 = .ok (.putfield 13, 3) := by decide +kernel
theorem dX8_init_22 : decode cX8_init 22 = .ok (.aload_n 0, 1) := by decide +kernel
theorem dX8_init_23 : decode cX8_init 23 = .ok (.sipush 1944, 3) := by decide +kernel
theorem dX8_init_26 : decode cX8_init 26 = .ok (.newarray .int, 2) := by decide +kernel
theorem dX8_init_28 : decode cX8_init 28 = .ok (.putfield 16, 3) := by decide +kernel
theorem dX8_init_31 : decode cX8_init 31 = .ok (.aload_n 0, 1) := by decide +kernel
theorem dX8_init_32 : decode cX8_init 32 = .ok (.sipush 648, 3) := by decide +kernel
theorem dX8_init_35 : decode cX8_init 35 = .ok (.newarray .int, 2) := by decide +kernel
theorem dX8_init_37 : decode cX8_init 37 = .ok (.putfield 19, 3) := by decide +kernel
theorem dX8_init_40 : decode cX8_init 40 = .ok (.aload_n 0, 1) := by decide +kernel
theorem dX8_init_41 : decode cX8_init 41 = .ok (.iconst 2, 1) := by decide +kernel
theorem dX8_init_42 : decode cX8_init 42 = .ok (.newarray .boolean, 2) := by decide +kernel
theorem dX8_init_44 : decode cX8_init 44 = .ok (.putfield 22, 3) := by decide +kernel
theorem dX8_init_47 : decode cX8_init 47 = .ok (.aload_n 0, 1) := by decide +kernel
theorem dX8_init_48 : decode cX8_init 48 = .ok (.bipush 80, 2) := by decide +kernel
theorem dX8_init_50 : decode cX8_init 50 = .ok (.newarray .int, 2) := by decide +kernel
theorem dX8_init_52 : decode cX8_init 52 = .ok (.putfield 26, 3) := by decide +kernel
theorem dX8_init_55 : decode cX8_init 55 = .ok (.aload_n 0, 1) := by decide +kernel
theorem dX8_init_56 : decode cX8_init 56 = .ok (.iconst 3, 1) := by decide +kernel
theorem dX8_init_57 : decode cX8_init 57 = .ok (.newarray .int, 2) := by decide +kernel
theorem dX8_init_59 : decode cX8_init 59 = .ok (.putfield 29, 3) := by decide +kernel
theorem dX8_init_62 : decode cX8_init 62 = .ok (.aload_n 0, 1) := by decide +kernel
theorem dX8_init_63 : decode cX8_init 63 = .ok (.iconst 5, 1) := by decide +kernel
theorem dX8_init_64 : decode cX8_init 64 = .ok (.newarray .int, 2) := by decide +kernel
theorem dX8_init_66 : decode cX8_init 66 = .ok (.putfield 32, 3) := by decide +kernel
theorem dX8_init_69 : decode cX8_init 69 = .ok (.aload_n 0, 1) := by decide +kernel
theorem dX8_init_70 : decode cX8_init 70 = .ok (.getfield 7, 3) := by decide +kernel
theorem dX8_init_73 : decode cX8_init 73 = .ok (.iconst 0, 1) := by decide +kernel
theorem dX8_init_74 : decode cX8_init 74 = .ok (.iconst 2, 1) := by decide +kernel
theorem dX8_init_75 : decode cX8_init 75 = .ok (.iastore, 1) := by decide +kernel
theorem dX8_init_76 : decode cX8_init 76 = .ok (.aload_n 0, 1) := by decide +kernel
theorem dX8_init_77 : decode cX8_init 77 = .ok (.getfield 7, 3) := by decide +kernel
theorem dX8_init_80 : decode cX8_init 80 = .ok (.iconst 1, 1) := by decide +kernel
theorem dX8_init_81 : decode cX8_init 81 = .ok (.bipush 12, 2) := by decide +kernel
theorem dX8_init_83 : decode cX8_init 83 = .ok (.iastore, 1) := by decide +kernel
theorem dX8_init_84 : decode cX8_init 84 = .ok (.aload_n 0, 1) := by decide +kernel
theorem dX8_init_85 : decode cX8_init 85 = .ok (.getfield 7, 3) := by decide +kernel
theorem dX8_init_88 : decode cX8_init 88 = .ok (.iconst 2, 1) := by decide +kernel
theorem dX8_init_89 : decode cX8_init 89 = .ok (.bipush (-3), 2) := by decide +kernel
theorem dX8_init_91 : decode cX8_init 91 = .ok (.iastore, 1) := by decide +kernel
theorem dX8_init_92 : decode cX8_init 92 = .ok (.aload_n 0, 1) := by decide +kernel
theorem dX8_init_93 : decode cX8_init 93 = .ok (.getfield 7, 3) := by decide +kernel
theorem dX8_init_96 : decode cX8_init 96 = .ok (.iconst 3, 1) := by decide +kernel
theorem dX8_init_97 : decode cX8_init 97 = .ok (.iconst 5, 1) := by decide +kernel
theorem dX8_init_98 : decode cX8_init 98 = .ok (.iastore, 1) := by decide +kernel
theorem dX8_init_99 : decode cX8_init 99 = .ok (.iconst 0, 1) := by decide +kernel
theorem dX8_init_100 : decode cX8_init 100 = .ok (.istore_n 1, 1) := by decide +kernel
theorem dX8_init_101 : decode cX8_init 101 = .ok (.iload_n 1, 1) := by decide +kernel
theorem dX8_init_102 : decode cX8_init 102 = .ok (.iconst 3, 1) := by decide +kernel
theorem dX8_init_103 : decode cX8_init 103 = .ok (.if_icmp .ge 48, 3) := by decide +kernel
theorem dX8_init_106 : decode cX8_init 106 = .ok (.aload_n 0, 1) := by decide +kernel
theorem dX8_init_107 : decode cX8_init 107 = .ok (.getfield 7, 3) := by decide +kernel
theorem dX8_init_110 : decode cX8_init 110 = .ok (.iload_n 1, 1) := by decide +kernel
theorem dX8_init_111 : decode cX8_init 111 = .ok (.iconst 0, 1) := by decide +kernel
theorem dX8_init_112 : decode cX8_init 112 = .ok (.invokestatic 35, 3) := by decide +kernel
theorem dX8_init_115 : decode cX8_init 115 = .ok (.sipush 4000, 3) := by decide +kernel
theorem dX8_init_118 : decode cX8_init 118 = .ok (.iastore, 1) := by decide +kernel
theorem dX8_init_119 : decode cX8_init 119 = .ok (.aload_n 0, 1) := by decide +kernel
theorem dX8_init_120 : decode cX8_init 120 = .ok (.getfield 7, 3) := by decide +kernel
theorem dX8_init_123 : decode cX8_init 123 = .ok (.iload_n 1, 1) := by decide +kernel
theorem dX8_init_124 : decode cX8_init 124 = .ok (.iconst 1, 1) := by decide +kernel
theorem dX8_init_125 : decode cX8_init 125 = .ok (.invokestatic 35, 3) := by decide +kernel
theorem dX8_init_128 : decode cX8_init 128 = .ok (.sipush 8000, 3) := by decide +kernel
theorem dX8_init_131 : decode cX8_init 131 = .ok (.iastore, 1) := by decide +kernel
theorem dX8_init_132 : decode cX8_init 132 = .ok (.aload_n 0, 1) := by decide +kernel
theorem dX8_init_133 : decode cX8_init 133 = .ok (.getfield 7, 3) := by decide +kernel
theorem dX8_init_136 : decode cX8_init 136 = .ok (.iload_n 1, 1) := by decide +kernel
theorem dX8_init_137 : decode cX8_init 137 = .ok (.iconst 2, 1) := by decide +kernel
theorem dX8_init_138 : decode cX8_init 138 = .ok (.invokestatic 35, 3) := by decide +kernel
theorem dX8_init_141 : decode cX8_init 141 = .ok (.sipush 10000, 3) := by decide +kernel
theorem dX8_init_144 : decode cX8_init 144 = .ok (.iastore, 1) := by decide +kernel
theorem dX8_init_145 : decode cX8_init 145 = .ok (.iinc 1 1, 3) := by decide +kernel
theorem dX8_init_148 : decode cX8_init 148 = .ok (.goto (-47), 3) := by decide +kernel
theorem dX8_init_151 : decode cX8_init 151 = .ok (.return_, 1) := by decide +kernel
theorem dX8_in_0 : decode cX8_in 0 = .ok (.iload_n 0, 1) := by decide +kernel
theorem dX8_in_1 : decode cX8_in 1 = .ok (.iload_n 1, 1) := by decide +kernel
theorem dX8_in_2 : decode cX8_in 2 = .ok (.if_icmp .lt 12, 3) := by decide +kernel
theorem dX8_in_5 : decode cX8_in 5 = .ok (.iload_n 0, 1) := by decide +kernel
theorem dX8_in_6 : decode cX8_in 6 = .ok (.iload_n 2, 1) := by decide +kernel
theorem dX8_in_7 : decode cX8_in 7 = .ok (.if_icmp .gt 7, 3) := by decide +kernel
theorem dX8_in_10 : decode cX8_in 10 = .ok (.iconst 1, 1) := by decide +kernel
theorem dX8_in_11 : decode cX8_in 11 = .ok (.goto 4, 3) := by decide +kernel
theorem dX8_in_14 : decode cX8_in 14 = .ok (.iconst 0, 1) := by decide +kernel
theorem dX8_in_15 : decode cX8_in 15 = .ok (.ireturn, 1) := by decide +kernel
theorem dX8_isBlock_0 : decode cX8_isBlock 0 = .ok (.iload_n 1, 1) := by decide +kernel
theorem dX8_isBlock_1 : decode cX8_isBlock 1 = .ok (.iconst 0, 1) := by decide +kernel
theorem dX8_isBlock_2 : decode cX8_isBlock 2 = .ok (.aload_n 0, 1) := by decide +kernel
theorem dX8_isBlock_3 : decode cX8_isBlock 3 = .ok (.getfield 7, 3) := by decide +kernel
theorem dX8_isBlock_6 : decode cX8_isBlock 6 = .ok (.iconst 5, 1) := by decide +kernel
theorem dX8_isBlock_7 : decode cX8_isBlock 7 = .ok (.iaload, 1) := by decide +kernel
theorem dX8_isBlock_8 : decode cX8_isBlock 8 = .ok (.iconst 1, 1) := by decide +kernel
theorem dX8_isBlock_9 : decode cX8_isBlock 9 = .ok (.isub, 1) := by decide +kernel
theorem dX8_isBlock_10 : decode cX8_isBlock 10 = .ok (.invokestatic 39, 3) := by decide +kernel
theorem dX8_isBlock_13 : decode cX8_isBlock 13 = .ok (.ireturn, 1) := by decide +kernel
theorem dX8_isOrder_0 : decode cX8_isOrder 0 = .ok (.iload_n 1, 1) := by decide +kernel
theorem dX8_isOrder_1 : decode cX8_isOrder 1 = .ok (.iconst 0, 1) := by decide +kernel
theorem dX8_isOrder_2 : decode cX8_isOrder 2 = .ok (.aload_n 0, 1) := by decide +kernel
theorem dX8_isOrder_3 : decode cX8_isOrder 3 = .ok (.getfield 7, 3) := by decide +kernel
theorem dX8_isOrder_6 : decode cX8_isOrder 6 = .ok (.bipush 6, 2) := by decide +kernel
theorem dX8_isOrder_8 : decode cX8_isOrder 8 = .ok (.iaload, 1) := by decide +kernel
theorem dX8_isOrder_9 : decode cX8_isOrder 9 = .ok (.iconst 1, 1) := by decide +kernel
theorem dX8_isOrder_10 : decode cX8_isOrder 10 = .ok (.isub, 1) := by decide +kernel
theorem dX8_isOrder_11 : decode cX8_isOrder 11 = .ok (.invokestatic 39, 3) := by decide +kernel
theorem dX8_isOrder_14 : decode cX8_isOrder 14 = .ok (.ireturn, 1) := by decide +kernel
theorem dX8_isLorry_0 : decode cX8_isLorry 0 = .ok (.iload_n 0, 1) := by decide +kernel
theorem dX8_isLorry_1 : decode cX8_isLorry 1 = .ok (.iconst 0, 1) := by decide +kernel
theorem dX8_isLorry_2 : decode cX8_isLorry 2 = .ok (.iconst 2, 1) := by decide +kernel
theorem dX8_isLorry_3 : decode cX8_isLorry 3 = .ok (.invokestatic 39, 3) := by decide +kernel
theorem dX8_isLorry_6 : decode cX8_isLorry 6 = .ok (.ireturn, 1) := by decide +kernel
theorem dX8_at_0 : decode cX8_at 0 = .ok (.bipush 12, 2) := by decide +kernel
theorem dX8_at_2 : decode cX8_at 2 = .ok (.bipush 10, 2) := by decide +kernel
theorem dX8_at_4 : decode cX8_at 4 = .ok (.iload_n 0, 1) := by decide +kernel
theorem dX8_at_5 : decode cX8_at 5 = .ok (.imul, 1) := by decide +kernel
theorem dX8_at_6 : decode cX8_at 6 = .ok (.iadd, 1) := by decide +kernel
theorem dX8_at_7 : decode cX8_at 7 = .ok (.iload_n 1, 1) := by decide +kernel
theorem dX8_at_8 : decode cX8_at 8 = .ok (.iadd, 1) := by decide +kernel
theorem dX8_at_9 : decode cX8_at 9 = .ok (.ireturn, 1) := by decide +kernel
