theorem dL_isLorry_13 : decode cL_isLorry 13 = .ok (.istore_n 3, 1) := by decide +kernel
theorem dL_isLorry_14 : decode cL_isLorry 14 = .ok (.iconst 0, 1) := by decide +kernel
theorem dL_isLorry_15 : decode cL_isLorry 15 = .ok (.istore 4, 2) := by decide +kernel
theorem dL_isLorry_17 : decode cL_isLorry 17 = .ok (.iconst 0, 1) := by decide +kernel
theorem dL_isLorry_18 : decode cL_isLorry 18 = .ok (.istore 5, 2) := by decide +kernel
theorem dL_isLorry_20 : decode cL_isLorry 20 = .ok (.iconst 0, 1) := by decide +kernel
theorem dL_isLorry_21 : decode cL_isLorry 21 = .ok (.istore 6, 2) := by decide +kernel
theorem dL_isLorry_23 : decode cL_isLorry 23 = .ok (.iload 6, 2) := by decide +kernel
theorem dL_isLorry_25 : decode cL_isLorry 25 = .ok (.aload_n 0, 1) := by decide +kernel
theorem dL_isLorry_26 : decode cL_isLorry 26 = .ok (.iconst 1, 1) := by decide +kernel
theorem dL_isLorry_27 : decode cL_isLorry 27 = .ok (.invokevirtual 9, 3) := by decide +kernel
theorem dL_isLorry_30 : decode cL_isLorry 30 = .ok (.if_icmp .ge 81, 3) := by decide +kernel
theorem dL_isLorry_33 : decode cL_isLorry 33 = .ok (.aload_n 0, 1) := by decide +kernel
theorem dL_isLorry_34 : decode cL_isLorry 34 = .ok (.iload_n 1, 1) := by decide +kernel
theorem dL_isLorry_35 : decode cL_isLorry 35 = .ok (.iconst 3, 1) := by decide +kernel
theorem dL_isLorry_36 : decode cL_isLorry 36 = .ok (.invokevirtual 62, 3) := by decide +kernel
theorem dL_isLorry_39 : decode cL_isLorry 39 = .ok (.iload 6, 2) := by decide +kernel
theorem dL_isLorry_41 : decode cL_isLorry 41 = .ok (.ishr, 1) := by decide +kernel
theorem dL_isLorry_42 : decode cL_isLorry 42 = .ok (.iconst 1, 1) := by decide +kernel
theorem dL_isLorry_43 : decode cL_isLorry 43 = .ok (.iand, 1) := by decide +kernel
theorem dL_isLorry_44 : decode cL_isLorry 44 = .ok (.iconst 1, 1) := by decide +kernel
theorem dL_isLorry_45 : decode cL_isLorry 45 = .ok (.if_icmp .ne 7, 3) := by decide +kernel
theorem dL_isLorry_48 : decode cL_isLorry 48 = .ok (.iconst 1, 1) := by decide +kernel
theorem dL_isLorry_49 : decode cL_isLorry 49 = .ok (.goto 4, 3) := by decide +kernel
theorem dL_isLorry_52 : decode cL_isLorry 52 = .ok (.iconst 0, 1) := by decide +kernel
theorem dL_isLorry_53 : decode cL_isLorry 53 = .ok (.istore 7, 2) := by decide +kernel
theorem dL_isLorry_55 : decode cL_isLorry 55 = .ok (.iload 4, 2) := by decide +kernel
theorem dL_isLorry_57 : decode cL_isLorry 57 = .ok (.iload 7, 2) := by decide +kernel
theorem dL_isLorry_59 : decode cL_isLorry 59 = .ok (.ifCond .eq 13, 3) := by decide +kernel
theorem dL_isLorry_62 : decode cL_isLorry 62 = .ok (.aload_n 0, 1) := by decide +kernel
theorem dL_isLorry_63 : decode cL_isLorry 63 = .ok (.iload 6, 2) := by decide +kernel
theorem dL_isLorry_65 : decode cL_isLorry 65 = .ok (.iconst 4, 1) := by decide +kernel
theorem dL_isLorry_66 : decode cL_isLorry 66 = .ok (.invokevirtual 35, 3) := by decide +kernel
theorem dL_isLorry_69 : decode cL_isLorry 69 = .ok (.goto 4, 3) := by decide +kernel
theorem dL_isLorry_72 : decode cL_isLorry 72 = .ok (.iconst 0, 1) := by decide +kernel
theorem dL_isLorry_73 : decode cL_isLorry 73 = .ok (.iadd, 1) := by decide +kernel
theorem dL_isLorry_74 : decode cL_isLorry 74 = .ok (.istore 4, 2) := by decide +kernel
theorem dL_isLorry_76 : decode cL_isLorry 76 = .ok (.iload 5, 2) := by decide +kernel
theorem dL_isLorry_78 : decode cL_isLorry 78 = .ok (.ifCond .ne 20, 3) := by decide +kernel
theorem dL_isLorry_81 : decode cL_isLorry 81 = .ok (.iload 7, 2) := by decide +kernel
theorem dL_isLorry_83 : decode cL_isLorry 83 = .ok (.ifCond .eq 19, 3) := by decide +kernel
theorem dL_isLorry_86 : decode cL_isLorry 86 = .ok (.aload_n 0, 1) := by decide +kernel
theorem dL_isLorry_87 : decode cL_isLorry 87 = .ok (.iload 6, 2) := by decide +kernel
theorem dL_isLorry_89 : decode cL_isLorry 89 = .ok (.bipush 7, 2) := by decide +kernel
theorem dL_isLorry_91 : decode cL_isLorry 91 = .ok (.invokevirtual 35, 3) := by decide +kernel
theorem dL_isLorry_94 : decode cL_isLorry 94 = .ok (.iconst 1, 1) := by decide +kernel
theorem dL_isLorry_95 : decode cL_isLorry 95 = .ok (.if_icmp .ne 7, 3) := by decide +kernel
theorem dL_isLorry_98 : decode cL_isLorry 98 = .ok (.iconst 1, 1) := by decide +kernel
theorem dL_isLorry_99 : decode cL_isLorry 99 = .ok (.goto 4, 3) := by decide +kernel
theorem dL_isLorry_102 : decode cL_isLorry 102 = .ok (.iconst 0, 1) := by decide +kernel
theorem dL_isLorry_103 : decode cL_isLorry 103 = .ok (.istore 5, 2) := by decide +kernel
theorem dL_isLorry_105 : decode cL_isLorry 105 = .ok (.iinc 6 1, 3) := by decide +kernel
theorem dL_isLorry_108 : decode cL_isLorry 108 = .ok (.goto (-85), 3) := by decide +kernel
theorem dL_isLorry_111 : decode cL_isLorry 111 = .ok (.aload_n 0, 1) := by decide +kernel
theorem dL_isLorry_112 : decode cL_isLorry 112 = .ok (.iload_n 1, 1) := by decide +kernel
theorem dL_isLorry_113 : decode cL_isLorry 113 = .ok (.iconst 3, 1) := by decide +kernel
theorem dL_isLorry_114 : decode cL_isLorry 114 = .ok (.invokevirtual 62, 3) := by decide +kernel
theorem dL_isLorry_117 : decode cL_isLorry 117 = .ok (.ifCond .ne 7, 3) := by decide +kernel
theorem dL_isLorry_120 : decode cL_isLorry 120 = .ok (.iconst 1, 1) := by decide +kernel
theorem dL_isLorry_121 : decode cL_isLorry 121 = .ok (.goto 61, 3) := by decide +kernel
theorem dL_isLorry_124 : decode cL_isLorry 124 = .ok (.iload 5, 2) := by decide +kernel
theorem dL_isLorry_126 : decode cL_isLorry 126 = .ok (.ifCond .eq 7, 3) := by decide +kernel
theorem dL_isLorry_129 : decode cL_isLorry 129 = .ok (.iconst 2, 1) := by decide +kernel
theorem dL_isLorry_130 : decode cL_isLorry 130 = .ok (.goto 52, 3) := by decide +kernel
theorem dL_isLorry_133 : decode cL_isLorry 133 = .ok (.iload 4, 2) := by decide +kernel
theorem dL_isLorry_135 : decode cL_isLorry 135 = .ok (.aload_n 0, 1) := by decide +kernel
theorem dL_isLorry_136 : decode cL_isLorry 136 = .ok (.iload_n 1, 1) := by decide +kernel
theorem dL_isLorry_137 : decode cL_isLorry 137 = .ok (.bipush 6, 2) := by decide +kernel
theorem dL_isLorry_139 : decode cL_isLorry 139 = .ok (.invokevirtual 62, 3) := by decide +kernel
theorem dL_isLorry_142 : decode cL_isLorry 142 = .ok (.if_icmp .le 7, 3) := by decide +kernel
theorem dL_isLorry_145 : decode cL_isLorry 145 = .ok (.iconst 3, 1) := by decide +kernel
theorem dL_isLorry_146 : decode cL_isLorry 146 = .ok (.goto 36, 3) := by decide +kernel
theorem dL_isLorry_149 : decode cL_isLorry 149 = .ok (.iload_n 2, 1) := by decide +kernel
theorem dL_isLorry_150 : decode cL_isLorry 150 = .ok (.iconst 4, 1) := by decide +kernel
theorem dL_isLorry_151 : decode cL_isLorry 151 = .ok (.aload_n 0, 1) := by decide +kernel
theorem dL_isLorry_152 : decode cL_isLorry 152 = .ok (.iload_n 1, 1) := by decide +kernel
theorem dL_isLorry_153 : decode cL_isLorry 153 = .ok (.iconst 4, 1) := by decide +kernel
theorem dL_isLorry_154 : decode cL_isLorry 154 = .ok (.invokevirtual 62, 3) := by decide +kernel
theorem dL_isLorry_157 : decode cL_isLorry 157 = .ok (.imul, 1) := by decide +kernel
theorem dL_isLorry_158 : decode cL_isLorry 158 = .ok (.if_icmp .le 7, 3) := by decide +kernel
theorem dL_isLorry_161 : decode cL_isLorry 161 = .ok (.iconst 4, 1) := by decide +kernel
theorem dL_isLorry_162 : decode cL_isLorry 162 = .ok (.goto 20, 3) := by decide +kernel
theorem dL_isLorry_165 : decode cL_isLorry 165 = .ok (.iload_n 3, 1) := by decide +kernel
theorem dL_isLorry_166 : decode cL_isLorry 166 = .ok (.iconst 4, 1) := by decide +kernel
theorem dL_isLorry_167 : decode cL_isLorry 167 = .ok (.aload_n 0, 1) := by decide +kernel
theorem dL_isLorry_168 : decode cL_isLorry 168 = .ok (.iload_n 1, 1) := by decide +kernel
theorem dL_isLorry_169 : decode cL_isLorry 169 = .ok (.iconst 5, 1) := by decide +kernel
theorem dL_isLorry_170 : decode cL_isLorry 170 = .ok (.invokevirtual 62, 3) := by decide +kernel
theorem dL_isLorry_173 : decode cL_isLorry 173 = .ok (.imul, 1) := by decide +kernel
theorem dL_isLorry_174 : decode cL_isLorry 174 = .ok (.if_icmp .le 7, 3) := by decide +kernel
theorem dL_isLorry_177 : decode cL_isLorry 177 = .ok (.iconst 5, 1) := by decide +kernel
theorem dL_isLorry_178 : decode cL_isLorry 178 = .ok (.goto 4, 3) := by decide +kernel
theorem dL_isLorry_181 : decode cL_isLorry 181 = .ok (.iconst 0, 1) := by decide +kernel
theorem dL_isLorry_182 : decode cL_isLorry 182 = .ok (.istore 6, 2) := by decide +kernel
theorem dL_isLorry_184 : decode cL_isLorry 184 = .ok (.iload 4, 2) := by decide +kernel
theorem dL_isLorry_186 : decode cL_isLorry 186 = .ok (.aload_n 0, 1) := by decide +kernel
theorem dL_isLorry_187 : decode cL_isLorry 187 = .ok (.iload_n 1, 1) := by decide +kernel
theorem dL_isLorry_188 : decode cL_isLorry 188 = .ok (.iconst 0, 1) := by decide +kernel
theorem dL_isLorry_189 : decode cL_isLorry 189 = .ok (.invokevirtual 62, 3) := by decide +kernel
theorem dL_isLorry_192 : decode cL_isLorry 192 = .ok (.if_icmp .ne 53, 3) := by decide +kernel
theorem dL_isLorry_195 : decode cL_isLorry 195 = .ok (.iload_n 2, 1) := by decide +kernel
theorem dL_isLorry_196 : decode cL_isLorry 196 = .ok (.iload_n 3, 1) := by decide +kernel
theorem dL_isLorry_197 : decode cL_isLorry 197 = .ok (.iadd, 1) := by decide +kernel
theorem dL_isLorry_198 : decode cL_isLorry 198 = .ok (.iconst 4, 1) := by decide +kernel
theorem dL_isLorry_199 : decode cL_isLorry 199 = .ok (.iload 4, 2) := by decide +kernel
theorem dL_isLorry_201 : decode cL_isLorry 201 = .ok (.imul, 1) := by decide +kernel
theorem dL_isLorry_202 : decode cL_isLorry 202 = .ok (.if_icmp .ne 43, 3) := by decide +kernel
theorem dL_isLorry_205 : decode cL_isLorry 205 = .ok (.aload_n 0, 1) := by decide +kernel
theorem dL_isLorry_206 : decode cL_isLorry 206 = .ok (.iload_n 1, 1) := by decide +kernel
theorem dL_isLorry_207 : decode cL_isLorry 207 = .ok (.iconst 1, 1) := by decide +kernel
theorem dL_isLorry_208 : decode cL_isLorry 208 = .ok (.invokevirtual 62, 3) := by decide +kernel
theorem dL_isLorry_211 : decode cL_isLorry 211 = .ok (.iload_n 2, 1) := by decide +kernel
theorem dL_isLorry_212 : decode cL_isLorry 212 = .ok (.invokestatic 80, 3) := by decide +kernel
theorem dL_isLorry_215 : decode cL_isLorry 215 = .ok (.if_icmp .ne 30, 3) := by decide +kernel
theorem dL_isLorry_218 : decode cL_isLorry 218 = .ok (.aload_n 0, 1) := by decide +kernel
theorem dL_isLorry_219 : decode cL_isLorry 219 = .ok (.iload_n 1, 1) := by decide +kernel
theorem dL_isLorry_220 : decode cL_isLorry 220 = .ok (.iconst 2, 1) := by decide +kernel
theorem dL_isLorry_221 : decode cL_isLorry 221 = .ok (.invokevirtual 62, 3) := by decide +kernel
theorem dL_isLorry_224 : decode cL_isLorry 224 = .ok (.iload_n 3, 1) := by decide +kernel
theorem dL_isLorry_225 : decode cL_isLorry 225 = .ok (.invokestatic 80, 3) := by decide +kernel
theorem dL_isLorry_228 : decode cL_isLorry 228 = .ok (.if_icmp .ne 17, 3) := by decide +kernel
theorem dL_isLorry_231 : decode cL_isLorry 231 = .ok (.aload_n 0, 1) := by decide +kernel
theorem dL_isLorry_232 : decode cL_isLorry 232 = .ok (.iload_n 1, 1) := by decide +kernel
theorem dL_isLorry_233 : decode cL_isLorry 233 = .ok (.invokevirtual 83, 3) := by decide +kernel
theorem dL_isLorry_236 : decode cL_isLorry 236 = .ok (.iload 6, 2) := by decide +kernel
theorem dL_isLorry_238 : decode cL_isLorry 238 = .ok (.if_icmp .ne 7, 3) := by decide +kernel
theorem dL_isLorry_241 : decode cL_isLorry 241 = .ok (.iconst 1, 1) := by decide +kernel
theorem dL_isLorry_242 : decode cL_isLorry 242 = .ok (.goto 4, 3) := by decide +kernel
theorem dL_isLorry_245 : decode cL_isLorry 245 = .ok (.iconst 0, 1) := by decide +kernel
theorem dL_isLorry_246 : decode cL_isLorry 246 = .ok (.ireturn, 1) := by decide +kernel
theorem dL_holds_0 : decode cL_holds 0 = .ok (.iconst 0, 1) := by decide +kernel
theorem dL_holds_1 : decode cL_holds 1 = .ok (.istore_n 1, 1) := by decide +kernel
theorem dL_holds_2 : decode cL_holds 2 = .ok (.iconst 0, 1) := by decide +kernel
theorem dL_holds_3 : decode cL_holds 3 = .ok (.istore_n 2, 1) := by decide +kernel
theorem dL_holds_4 : decode cL_holds 4 = .ok (.iconst 0, 1) := by decide +kernel
theorem dL_holds_5 : decode cL_holds 5 = .ok (.istore_n 3, 1) := by decide +kernel
theorem dL_holds_6 : decode cL_holds 6 = .ok (.aload_n 0, 1) := by decide +kernel
theorem dL_holds_7 : decode cL_holds 7 = .ok (.aload_n 0, 1) := by decide +kernel
theorem dL_holds_8 : decode cL_holds 8 = .ok (.iconst 1, 1) := by decide +kernel
theorem dL_holds_9 : decode cL_holds 9 = .ok (.invokevirtual 9, 3) := by decide +kernel
theorem dL_holds_12 : decode cL_holds 12 = .ok (.iconst 0, 1) := by decide +kernel
theorem dL_holds_13 : decode cL_holds 13 = .ok (.invokevirtual 35, 3) := by decide +kernel
theorem dL_holds_16 : decode cL_holds 16 = .ok (.iconst (-1), 1) := by decide +kernel
theorem dL_holds_17 : decode cL_holds 17 = .ok (.if_icmp .ne 38, 3) := by decide +kernel
theorem dL_holds_20 : decode cL_holds 20 = .ok (.aload_n 0, 1) := by decide +kernel
theorem dL_holds_21 : decode cL_holds 21 = .ok (.bipush 6, 2) := by decide +kernel
theorem dL_holds_23 : decode cL_holds 23 = .ok (.invokevirtual 9, 3) := by decide +kernel
theorem dL_holds_26 : decode cL_holds 26 = .ok (.aload_n 0, 1) := by decide +kernel
theorem dL_holds_27 : decode cL_holds 27 = .ok (.bipush 7, 2) := by decide +kernel
theorem dL_holds_29 : decode cL_holds 29 = .ok (.invokevirtual 9, 3) := by decide +kernel
theorem dL_holds_32 : decode cL_holds 32 = .ok (.aload_n 0, 1) := by decide +kernel
theorem dL_holds_33 : decode cL_holds 33 = .ok (.bipush 8, 2) := by decide +kernel
theorem dL_holds_35 : decode cL_holds 35 = .ok (.invokevirtual 9, 3) := by decide +kernel
theorem dL_holds_38 : decode cL_holds 38 = .ok (.iadd, 1) := by decide +kernel
theorem dL_holds_39 : decode cL_holds 39 = .ok (.if_icmp .ne 16, 3) := by decide +kernel
theorem dL_holds_42 : decode cL_holds 42 = .ok (.aload_n 0, 1) := by decide +kernel
theorem dL_holds_43 : decode cL_holds 43 = .ok (.bipush 8, 2) := by decide +kernel
theorem dL_holds_45 : decode cL_holds 45 = .ok (.invokevirtual 9, 3) := by decide +kernel
theorem dL_holds_48 : decode cL_holds 48 = .ok (.ifCond .lt 7, 3) := by decide +kernel
theorem dL_holds_51 : decode cL_holds 51 = .ok (.iconst 1, 1) := by decide +kernel
theorem dL_holds_52 : decode cL_holds 52 = .ok (.goto 4, 3) := by decide +kernel
theorem dL_holds_55 : decode cL_holds 55 = .ok (.iconst 0, 1) := by decide +kernel
theorem dL_holds_56 : decode cL_holds 56 = .ok (.istore 4, 2) := by decide +kernel
theorem dL_holds_58 : decode cL_holds 58 = .ok (.iconst 0, 1) := by decide +kernel
theorem dL_holds_59 : decode cL_holds 59 = .ok (.istore 5, 2) := by decide +kernel
theorem dL_holds_61 : decode cL_holds 61 = .ok (.iload 5, 2) := by decide +kernel
theorem dL_holds_63 : decode cL_holds 63 = .ok (.aload_n 0, 1) := by decide +kernel
theorem dL_holds_64 : decode cL_holds 64 = .ok (.iconst 1, 1) := by decide +kernel
theorem dL_holds_65 : decode cL_holds 65 = .ok (.invokevirtual 9, 3) := by decide +kernel
theorem dL_holds_68 : decode cL_holds 68 = .ok (.if_icmp .ge 72, 3) := by decide +kernel
theorem dL_holds_71 : decode cL_holds 71 = .ok (.iload 4, 2) := by decide +kernel
theorem dL_holds_73 : decode cL_holds 73 = .ok (.ifCond .eq 67, 3) := by decide +kernel
theorem dL_holds_76 : decode cL_holds 76 = .ok (.aload_n 0, 1) := by decide +kernel
theorem dL_holds_77 : decode cL_holds 77 = .ok (.iload 5, 2) := by decide +kernel
theorem dL_holds_79 : decode cL_holds 79 = .ok (.invokestatic 86, 3) := by decide +kernel
theorem dL_holds_82 : decode cL_holds 82 = .ok (.istore 4, 2) := by decide +kernel
theorem dL_holds_84 : decode cL_holds 84 = .ok (.iload_n 1, 1) := by decide +kernel
theorem dL_holds_85 : decode cL_holds 85 = .ok (.aload_n 0, 1) := by decide +kernel
theorem dL_holds_86 : decode cL_holds 86 = .ok (.iload 5, 2) := by decide +kernel
theorem dL_holds_88 : decode cL_holds 88 = .ok (.iconst 5, 1) := by decide +kernel
theorem dL_holds_89 : decode cL_holds 89 = .ok (.invokevirtual 35, 3) := by decide +kernel
theorem dL_holds_92 : decode cL_holds 92 = .ok (.iconst 4, 1) := by decide +kernel
theorem dL_holds_93 : decode cL_holds 93 = .ok (.if_icmp .ne 7, 3) := by decide +kernel
theorem dL_holds_96 : decode cL_holds 96 = .ok (.iconst 0, 1) := by decide +kernel
theorem dL_holds_97 : decode cL_holds 97 = .ok (.goto 10, 3) := by decide +kernel
theorem dL_holds_100 : decode cL_holds 100 = .ok (.aload_n 0, 1) := by decide +kernel
theorem dL_holds_101 : decode cL_holds 101 = .ok (.iload 5, 2) := by decide +kernel
theorem dL_holds_103 : decode cL_holds 103 = .ok (.iconst 4, 1) := by decide +kernel
theorem dL_holds_104 : decode cL_holds 104 = .ok (.invokevirtual 35, 3) := by decide +kernel
theorem dL_holds_107 : decode cL_holds 107 = .ok (.iadd, 1) := by decide +kernel
theorem dL_holds_108 : decode cL_holds 108 = .ok (.istore_n 1, 1) := by decide +kernel
theorem dL_holds_109 : decode cL_holds 109 = .ok (.iload_n 3, 1) := by decide +kernel
theorem dL_holds_110 : decode cL_holds 110 = .ok (.aload_n 0, 1) := by decide +kernel
theorem dL_holds_111 : decode cL_holds 111 = .ok (.iload 5, 2) := by decide +kernel
theorem dL_holds_113 : decode cL_holds 113 = .ok (.iconst 5, 1) := by decide +kernel
theorem dL_holds_114 : decode cL_holds 114 = .ok (.invokevirtual 35, 3) := by decide +kernel
theorem dL_holds_117 : decode cL_holds 117 = .ok (.iconst 3, 1) := by decide +kernel
theorem dL_holds_118 : decode cL_holds 118 = .ok (.if_icmp .ne 13, 3) := by decide +kernel
theorem dL_holds_121 : decode cL_holds 121 = .ok (.aload_n 0, 1) := by decide +kernel
theorem dL_holds_122 : decode cL_holds 122 = .ok (.iload 5, 2) := by decide +kernel
theorem dL_holds_124 : decode cL_holds 124 = .ok (.iconst 4, 1) := by decide +kernel
theorem dL_holds_125 : decode cL_holds 125 = .ok (.invokevirtual 35, 3) := by decide +kernel
theorem dL_holds_128 : decode cL_holds 128 = .ok (.goto 4, 3) := by decide +kernel
theorem dL_holds_131 : decode cL_holds 131 = .ok (.iconst 0, 1) := by decide +kernel
theorem dL_holds_132 : decode cL_holds 132 = .ok (.iadd, 1) := by decide +kernel
theorem dL_holds_133 : decode cL_holds 133 = .ok (.istore_n 3, 1) := by decide +kernel
theorem dL_holds_134 : decode cL_holds 134 = .ok (.iinc 5 1, 3) := by decide +kernel
theorem dL_holds_137 : decode cL_holds 137 = .ok (.goto (-76), 3) := by decide +kernel
theorem dL_holds_140 : decode cL_holds 140 = .ok (.iconst 0, 1) := by decide +kernel
theorem dL_holds_141 : decode cL_holds 141 = .ok (.istore 5, 2) := by decide +kernel
theorem dL_holds_143 : decode cL_holds 143 = .ok (.iload 5, 2) := by decide +kernel
theorem dL_holds_145 : decode cL_holds 145 = .ok (.aload_n 0, 1) := by decide +kernel
theorem dL_holds_146 : decode cL_holds 146 = .ok (.iconst 2, 1) := by decide +kernel
theorem dL_holds_147 : decode cL_holds 147 = .ok (.invokevirtual 9, 3) := by decide +kernel
theorem dL_holds_150 : decode cL_holds 150 = .ok (.if_icmp .ge 47, 3) := by decide +kernel
theorem dL_holds_153 : decode cL_holds 153 = .ok (.iload 4, 2) := by decide +kernel
theorem dL_holds_155 : decode cL_holds 155 = .ok (.ifCond .eq 42, 3) := by decide +kernel
theorem dL_holds_158 : decode cL_holds 158 = .ok (.aload_n 0, 1) := by decide +kernel
theorem dL_holds_159 : decode cL_holds 159 = .ok (.iload 5, 2) := by decide +kernel
theorem dL_holds_161 : decode cL_holds 161 = .ok (.invokestatic 90, 3) := by decide +kernel
theorem dL_holds_164 : decode cL_holds 164 = .ok (.istore 4, 2) := by decide +kernel
theorem dL_holds_166 : decode cL_holds 166 = .ok (.iload_n 2, 1) := by decide +kernel
theorem dL_holds_167 : decode cL_holds 167 = .ok (.aload_n 0, 1) := by decide +kernel
theorem dL_holds_168 : decode cL_holds 168 = .ok (.iload 5, 2) := by decide +kernel
theorem dL_holds_170 : decode cL_holds 170 = .ok (.iconst 3, 1) := by decide +kernel
theorem dL_holds_171 : decode cL_holds 171 = .ok (.invokevirtual 65, 3) := by decide +kernel
theorem dL_holds_174 : decode cL_holds 174 = .ok (.iconst 2, 1) := by decide +kernel
theorem dL_holds_175 : decode cL_holds 175 = .ok (.if_icmp .ne 13, 3) := by decide +kernel
theorem dL_holds_178 : decode cL_holds 178 = .ok (.aload_n 0, 1) := by decide +kernel
theorem dL_holds_179 : decode cL_holds 179 = .ok (.iload 5, 2) := by decide +kernel
theorem dL_holds_181 : decode cL_holds 181 = .ok (.iconst 5, 1) := by decide +kernel
theorem dL_holds_182 : decode cL_holds 182 = .ok (.invokevirtual 65, 3) := by decide +kernel
theorem dL_holds_185 : decode cL_holds 185 = .ok (.goto 4, 3) := by decide +kernel
theorem dL_holds_188 : decode cL_holds 188 = .ok (.iconst 0, 1) := by decide +kernel
theorem dL_holds_189 : decode cL_holds 189 = .ok (.iadd, 1) := by decide +kernel
theorem dL_holds_190 : decode cL_holds 190 = .ok (.istore_n 2, 1) := by decide +kernel
theorem dL_holds_191 : decode cL_holds 191 = .ok (.iinc 5 1, 3) := by decide +kernel
theorem dL_holds_194 : decode cL_holds 194 = .ok (.goto (-51), 3) := by decide +kernel
theorem dL_holds_197 : decode cL_holds 197 = .ok (.iconst 0, 1) := by decide +kernel
theorem dL_holds_198 : decode cL_holds 198 = .ok (.istore 5, 2) := by decide +kernel
theorem dL_holds_200 : decode cL_holds 200 = .ok (.iload 5, 2) := by decide +kernel
theorem dL_holds_202 : decode cL_holds 202 = .ok (.iconst 3, 1) := by decide +kernel
theorem dL_holds_203 : decode cL_holds 203 = .ok (.if_icmp .ge 22, 3) := by decide +kernel
theorem dL_holds_206 : decode cL_holds 206 = .ok (.iload 4, 2) := by decide +kernel
theorem dL_holds_208 : decode cL_holds 208 = .ok (.ifCond .eq 17, 3) := by decide +kernel
theorem dL_holds_211 : decode cL_holds 211 = .ok (.aload_n 0, 1) := by decide +kernel
theorem dL_holds_212 : decode cL_holds 212 = .ok (.iload 5, 2) := by decide +kernel
theorem dL_holds_214 : decode cL_holds 214 = .ok (.invokestatic 93, 3) := by decide +kernel
theorem dL_holds_217 : decode cL_holds 217 = .ok (.istore 4, 2) := by decide +kernel
theorem dL_holds_219 : decode cL_holds 219 = .ok (.iinc 5 1, 3) := by decide +kernel
theorem dL_holds_222 : decode cL_holds 222 = .ok (.goto (-22), 3) := by decide +kernel
theorem dL_holds_225 : decode cL_holds 225 = .ok (.iload 4, 2) := by decide +kernel
theorem dL_holds_227 : decode cL_holds 227 = .ok (.ifCond .eq 49, 3) := by decide +kernel
theorem dL_holds_230 : decode cL_holds 230 = .ok (.iload_n 1, 1) := by decide +kernel
theorem dL_holds_231 : decode cL_holds 231 = .ok (.aload_n 0, 1) := by decide +kernel
theorem dL_holds_232 : decode cL_holds 232 = .ok (.bipush 7, 2) := by decide +kernel
theorem dL_holds_234 : decode cL_holds 234 = .ok (.invokevirtual 9, 3) := by decide +kernel
theorem dL_holds_237 : decode cL_holds 237 = .ok (.if_icmp .ne 39, 3) := by decide +kernel
theorem dL_holds_240 : decode cL_holds 240 = .ok (.iload_n 3, 1) := by decide +kernel
theorem dL_holds_241 : decode cL_holds 241 = .ok (.aload_n 0, 1) := by decide +kernel
theorem dL_holds_242 : decode cL_holds 242 = .ok (.bipush 9, 2) := by decide +kernel
theorem dL_holds_244 : decode cL_holds 244 = .ok (.invokevirtual 9, 3) := by decide +kernel
theorem dL_holds_247 : decode cL_holds 247 = .ok (.if_icmp .ne 29, 3) := by decide +kernel
theorem dL_holds_250 : decode cL_holds 250 = .ok (.iload_n 2, 1) := by decide +kernel
theorem dL_holds_251 : decode cL_holds 251 = .ok (.aload_n 0, 1) := by decide +kernel
theorem dL_holds_252 : decode cL_holds 252 = .ok (.bipush 10, 2) := by decide +kernel
theorem dL_holds_254 : decode cL_holds 254 = .ok (.invokevirtual 9, 3) := by decide +kernel
theorem dL_holds_257 : decode cL_holds 257 = .ok (.if_icmp .ne 19, 3) := by decide +kernel
theorem dL_holds_260 : decode cL_holds 260 = .ok (.aload_n 0, 1) := by decide +kernel
theorem dL_holds_261 : decode cL_holds 261 = .ok (.iconst 4, 1) := by decide +kernel
theorem dL_holds_262 : decode cL_holds 262 = .ok (.invokevirtual 9, 3) := by decide +kernel
theorem dL_holds_265 : decode cL_holds 265 = .ok (.invokestatic 96, 3) := by decide +kernel
theorem dL_holds_268 : decode cL_holds 268 = .ok (.iconst 4, 1) := by decide +kernel
theorem dL_holds_269 : decode cL_holds 269 = .ok (.if_icmp .gt 7, 3) := by decide +kernel
theorem dL_holds_272 : decode cL_holds 272 = .ok (.iconst 1, 1) := by decide +kernel
theorem dL_holds_273 : decode cL_holds 273 = .ok (.goto 4, 3) := by decide +kernel
theorem dL_holds_276 : decode cL_holds 276 = .ok (.iconst 0, 1) := by decide +kernel
theorem dL_holds_277 : decode cL_holds 277 = .ok (.ireturn, 1) := by decide +kernel
theorem dL_bits_0 : decode cL_bits 0 = .ok (.iconst 0, 1) := by decide +kernel
theorem dL_bits_1 : decode cL_bits 1 = .ok (.istore_n 1, 1) := by decide +kernel
theorem dL_bits_2 : decode cL_bits 2 = .ok (.iconst 0, 1) := by decide +kernel
theorem dL_bits_3 : decode cL_bits 3 = .ok (.istore_n 2, 1) := by decide +kernel
theorem dL_bits_4 : decode cL_bits 4 = .ok (.iload_n 2, 1) := by decide +kernel
theorem dL_bits_5 : decode cL_bits 5 = .ok (.bipush 24, 2) := by decide +kernel
theorem dL_bits_7 : decode cL_bits 7 = .ok (.if_icmp .ge 17, 3) := by decide +kernel
theorem dL_bits_10 : decode cL_bits 10 = .ok (.iload_n 1, 1) := by decide +kernel
theorem dL_bits_11 : decode cL_bits 11 = .ok (.iload_n 0, 1) := by decide +kernel
theorem dL_bits_12 : decode cL_bits 12 = .ok (.iload_n 2, 1) := by decide +kernel
theorem dL_bits_13 : decode cL_bits 13 = .ok (.ishr, 1) := by decide +kernel
theorem dL_bits_14 : decode cL_bits 14 = .ok (.iconst 1, 1) := by decide +kernel
theorem dL_bits_15 : decode cL_bits 15 = .ok (.iand, 1) := by decide +kernel
theorem dL_bits_16 : decode cL_bits 16 = .ok (.iadd, 1) := by decide +kernel
theorem dL_bits_17 : decode cL_bits 17 = .ok (.istore_n 1, 1) := by decide +kernel
theorem dL_bits_18 : decode cL_bits 18 = .ok (.iinc 2 1, 3) := by decide +kernel
theorem dL_bits_21 : decode cL_bits 21 = .ok (.goto (-17), 3) := by decide +kernel
theorem dL_bits_24 : decode cL_bits 24 = .ok (.iload_n 1, 1) := by decide +kernel
theorem dL_bits_25 : decode cL_bits 25 = .ok (.ireturn, 1) := by decide +kernel
theorem dL_tries_0 : decode cL_tries 0 = .ok (.aload_n 0, 1) := by decide +kernel
theorem dL_tries_1 : decode cL_tries 1 = .ok (.invokevirtual 68, 3) := by decide +kernel
theorem dL_tries_4 : decode cL_tries 4 = .ok (.istore_n 2, 1) := by decide +kernel
theorem dL_tries_5 : decode cL_tries 5 = .ok (.aload_n 0, 1) := by decide +kernel
theorem dL_tries_6 : decode cL_tries 6 = .ok (.iconst 5, 1) := by decide +kernel
theorem dL_tries_7 : decode cL_tries 7 = .ok (.invokevirtual 9, 3) := by decide +kernel
theorem dL_tries_10 : decode cL_tries 10 = .ok (.istore_n 3, 1) := by decide +kernel
theorem dL_tries_11 : decode cL_tries 11 = .ok (.aload_n 0, 1) := by decide +kernel
theorem dL_tries_12 : decode cL_tries 12 = .ok (.bipush (-40), 2) := by decide +kernel
theorem dL_tries_14 : decode cL_tries 14 = .ok (.invokevirtual 56, 3) := by decide +kernel
theorem dL_tries_17 : decode cL_tries 17 = .ok (.iload_n 2, 1) := by decide +kernel
theorem dL_tries_18 : decode cL_tries 18 = .ok (.invokestatic 96, 3) := by decide +kernel
theorem dL_tries_21 : decode cL_tries 21 = .ok (.if_icmp .ne 43, 3) := by decide +kernel
theorem dL_tries_24 : decode cL_tries 24 = .ok (.aload_n 0, 1) := by decide +kernel
theorem dL_tries_25 : decode cL_tries 25 = .ok (.iconst 5, 1) := by decide +kernel
theorem dL_tries_26 : decode cL_tries 26 = .ok (.invokevirtual 9, 3) := by decide +kernel
theorem dL_tries_29 : decode cL_tries 29 = .ok (.iload_n 3, 1) := by decide +kernel
theorem dL_tries_30 : decode cL_tries 30 = .ok (.iload_n 2, 1) := by decide +kernel
theorem dL_tries_31 : decode cL_tries 31 = .ok (.ior, 1) := by decide +kernel
theorem dL_tries_32 : decode cL_tries 32 = .ok (.if_icmp .ne 32, 3) := by decide +kernel
theorem dL_tries_35 : decode cL_tries 35 = .ok (.aload_n 0, 1) := by decide +kernel
theorem dL_tries_36 : decode cL_tries 36 = .ok (.iconst 3, 1) := by decide +kernel
theorem dL_tries_37 : decode cL_tries 37 = .ok (.invokevirtual 9, 3) := by decide +kernel
theorem dL_tries_40 : decode cL_tries 40 = .ok (.iconst 1, 1) := by decide +kernel
theorem dL_tries_41 : decode cL_tries 41 = .ok (.if_icmp .ne 23, 3) := by decide +kernel
theorem dL_tries_44 : decode cL_tries 44 = .ok (.aload_n 0, 1) := by decide +kernel
theorem dL_tries_45 : decode cL_tries 45 = .ok (.invokevirtual 99, 3) := by decide +kernel
theorem dL_tries_48 : decode cL_tries 48 = .ok (.ifCond .lt 16, 3) := by decide +kernel
theorem dL_tries_51 : decode cL_tries 51 = .ok (.aload_n 0, 1) := by decide +kernel
theorem dL_tries_52 : decode cL_tries 52 = .ok (.iconst 5, 1) := by decide +kernel
theorem dL_tries_53 : decode cL_tries 53 = .ok (.invokevirtual 9, 3) := by decide +kernel
theorem dL_tries_56 : decode cL_tries 56 = .ok (.iload_n 3, 1) := by decide +kernel
theorem dL_tries_57 : decode cL_tries 57 = .ok (.if_icmp .ne 7, 3) := by decide +kernel
theorem dL_tries_60 : decode cL_tries 60 = .ok (.iconst 1, 1) := by decide +kernel
theorem dL_tries_61 : decode cL_tries 61 = .ok (.goto 4, 3) := by decide +kernel
theorem dL_tries_64 : decode cL_tries 64 = .ok (.iconst 0, 1) := by decide +kernel
theorem dL_tries_65 : decode cL_tries 65 = .ok (.istore 4, 2) := by decide +kernel
theorem dL_tries_67 : decode cL_tries 67 = .ok (.aload_n 0, 1) := by decide +kernel
theorem dL_tries_68 : decode cL_tries 68 = .ok (.iconst 1, 1) := by decide +kernel
theorem dL_tries_69 : decode cL_tries 69 = .ok (.invokevirtual 9, 3) := by decide +kernel
theorem dL_tries_72 : decode cL_tries 72 = .ok (.istore 5, 2) := by decide +kernel
theorem dL_tries_74 : decode cL_tries 74 = .ok (.iload_n 1, 1) := by decide +kernel
theorem dL_tries_75 : decode cL_tries 75 = .ok (.aload_n 0, 1) := by decide +kernel
theorem dL_tries_76 : decode cL_tries 76 = .ok (.iconst 2, 1) := by decide +kernel
theorem dL_tries_77 : decode cL_tries 77 = .ok (.invokevirtual 9, 3) := by decide +kernel
theorem dL_tries_80 : decode cL_tries 80 = .ok (.iconst 1, 1) := by decide +kernel
theorem dL_tries_81 : decode cL_tries 81 = .ok (.iadd, 1) := by decide +kernel
theorem dL_tries_82 : decode cL_tries 82 = .ok (.invokestatic 15, 3) := by decide +kernel
theorem dL_tries_85 : decode cL_tries 85 = .ok (.istore 6, 2) := by decide +kernel
theorem dL_tries_87 : decode cL_tries 87 = .ok (.iload_n 1, 1) := by decide +kernel
theorem dL_tries_88 : decode cL_tries 88 = .ok (.iconst 4, 1) := by decide +kernel
theorem dL_tries_89 : decode cL_tries 89 = .ok (.ishr, 1) := by decide +kernel
theorem dL_tries_90 : decode cL_tries 90 = .ok (.iload 5, 2) := by decide +kernel
theorem dL_tries_92 : decode cL_tries 92 = .ok (.iconst 1, 1) := by decide +kernel
theorem dL_tries_93 : decode cL_tries 93 = .ok (.iadd, 1) := by decide +kernel
theorem dL_tries_94 : decode cL_tries 94 = .ok (.invokestatic 15, 3) := by decide +kernel
theorem dL_tries_97 : decode cL_tries 97 = .ok (.istore 7, 2) := by decide +kernel
theorem dL_tries_99 : decode cL_tries 99 = .ok (.aload_n 0, 1) := by decide +kernel
theorem dL_tries_100 : decode cL_tries 100 = .ok (.iload 6, 2) := by decide +kernel
theorem dL_tries_102 : decode cL_tries 102 = .ok (.iload 7, 2) := by decide +kernel
theorem dL_tries_104 : decode cL_tries 104 = .ok (.iconst 0, 1) := by decide +kernel
theorem dL_tries_105 : decode cL_tries 105 = .ok (.invokevirtual 102, 3) := by decide +kernel
theorem dL_tries_108 : decode cL_tries 108 = .ok (.istore 8, 2) := by decide +kernel
theorem dL_tries_110 : decode cL_tries 110 = .ok (.aload_n 0, 1) := by decide +kernel
theorem dL_tries_111 : decode cL_tries 111 = .ok (.iload 6, 2) := by decide +kernel
theorem dL_tries_113 : decode cL_tries 113 = .ok (.iload 7, 2) := by decide +kernel
theorem dL_tries_115 : decode cL_tries 115 = .ok (.iconst 1, 1) := by decide +kernel
theorem dL_tries_116 : decode cL_tries 116 = .ok (.invokevirtual 102, 3) := by decide +kernel
theorem dL_tries_119 : decode cL_tries 119 = .ok (.istore 9, 2) := by decide +kernel
theorem dL_tries_121 : decode cL_tries 121 = .ok (.iload 4, 2) := by decide +kernel
theorem dL_tries_123 : decode cL_tries 123 = .ok (.ifCond .eq 140, 3) := by decide +kernel
theorem dL_tries_126 : decode cL_tries 126 = .ok (.iload 8, 2) := by decide +kernel
theorem dL_tries_128 : decode cL_tries 128 = .ok (.ifCond .lt 135, 3) := by decide +kernel
theorem dL_tries_131 : decode cL_tries 131 = .ok (.iload 5, 2) := by decide +kernel
theorem dL_tries_133 : decode cL_tries 133 = .ok (.bipush 22, 2) := by decide +kernel
theorem dL_tries_135 : decode cL_tries 135 = .ok (.if_icmp .gt 128, 3) := by decide +kernel
theorem dL_tries_138 : decode cL_tries 138 = .ok (.aload_n 0, 1) := by decide +kernel
theorem dL_tries_139 : decode cL_tries 139 = .ok (.iload 7, 2) := by decide +kernel
theorem dL_tries_141 : decode cL_tries 141 = .ok (.iload 8, 2) := by decide +kernel
theorem dL_tries_143 : decode cL_tries 143 = .ok (.iload 9, 2) := by decide +kernel
theorem dL_tries_145 : decode cL_tries 145 = .ok (.invokevirtual 25, 3) := by decide +kernel
theorem dL_tries_148 : decode cL_tries 148 = .ok (.iload 5, 2) := by decide +kernel
theorem dL_tries_150 : decode cL_tries 150 = .ok (.if_icmp .ne 64, 3) := by decide +kernel
theorem dL_tries_153 : decode cL_tries 153 = .ok (.aload_n 0, 1) := by decide +kernel
theorem dL_tries_154 : decode cL_tries 154 = .ok (.iload 5, 2) := by decide +kernel
theorem dL_tries_156 : decode cL_tries 156 = .ok (.iload 8, 2) := by decide +kernel
theorem dL_tries_158 : decode cL_tries 158 = .ok (.invokevirtual 35, 3) := by decide +kernel
theorem dL_tries_161 : decode cL_tries 161 = .ok (.iload 9, 2) := by decide +kernel
theorem dL_tries_163 : decode cL_tries 163 = .ok (.if_icmp .ne 51, 3) := by decide +kernel
theorem dL_tries_166 : decode cL_tries 166 = .ok (.aload_n 0, 1) := by decide +kernel
theorem dL_tries_167 : decode cL_tries 167 = .ok (.iload 5, 2) := by decide +kernel
theorem dL_tries_169 : decode cL_tries 169 = .ok (.iconst 1, 1) := by decide +kernel
theorem dL_tries_170 : decode cL_tries 170 = .ok (.iadd, 1) := by decide +kernel
theorem dL_tries_171 : decode cL_tries 171 = .ok (.iload 8, 2) := by decide +kernel
theorem dL_tries_173 : decode cL_tries 173 = .ok (.invokevirtual 35, 3) := by decide +kernel
theorem dL_tries_176 : decode cL_tries 176 = .ok (.aload_n 0, 1) := by decide +kernel
theorem dL_tries_177 : decode cL_tries 177 = .ok (.iload 7, 2) := by decide +kernel
theorem dL_tries_179 : decode cL_tries 179 = .ok (.iload 8, 2) := by decide +kernel
theorem dL_tries_181 : decode cL_tries 181 = .ok (.invokevirtual 35, 3) := by decide +kernel
theorem dL_tries_184 : decode cL_tries 184 = .ok (.iload 9, 2) := by decide +kernel
theorem dL_tries_186 : decode cL_tries 186 = .ok (.isub, 1) := by decide +kernel
theorem dL_tries_187 : decode cL_tries 187 = .ok (.aload_n 0, 1) := by decide +kernel
theorem dL_tries_188 : decode cL_tries 188 = .ok (.bipush 12, 2) := by decide +kernel
theorem dL_tries_190 : decode cL_tries 190 = .ok (.invokevirtual 9, 3) := by decide +kernel
theorem dL_tries_193 : decode cL_tries 193 = .ok (.isub, 1) := by decide +kernel
theorem dL_tries_194 : decode cL_tries 194 = .ok (.if_icmp .ne 20, 3) := by decide +kernel
theorem dL_tries_197 : decode cL_tries 197 = .ok (.aload_n 0, 1) := by decide +kernel
theorem dL_tries_198 : decode cL_tries 198 = .ok (.iload 5, 2) := by decide +kernel
theorem dL_tries_200 : decode cL_tries 200 = .ok (.bipush 10, 2) := by decide +kernel
theorem dL_tries_202 : decode cL_tries 202 = .ok (.invokevirtual 35, 3) := by decide +kernel
theorem dL_tries_205 : decode cL_tries 205 = .ok (.iload 7, 2) := by decide +kernel
theorem dL_tries_207 : decode cL_tries 207 = .ok (.if_icmp .ne 7, 3) := by decide +kernel
theorem dL_tries_210 : decode cL_tries 210 = .ok (.iconst 1, 1) := by decide +kernel
theorem dL_tries_211 : decode cL_tries 211 = .ok (.goto 4, 3) := by decide +kernel
theorem dL_tries_214 : decode cL_tries 214 = .ok (.iconst 0, 1) := by decide +kernel
theorem dL_tries_215 : decode cL_tries 215 = .ok (.istore 4, 2) := by decide +kernel
theorem dL_tries_217 : decode cL_tries 217 = .ok (.iload 4, 2) := by decide +kernel
theorem dL_tries_219 : decode cL_tries 219 = .ok (.ifCond .eq 41, 3) := by decide +kernel
theorem dL_tries_222 : decode cL_tries 222 = .ok (.aload_n 0, 1) := by decide +kernel
theorem dL_tries_223 : decode cL_tries 223 = .ok (.iload 6, 2) := by decide +kernel
theorem dL_tries_225 : decode cL_tries 225 = .ok (.iconst 3, 1) := by decide +kernel
theorem dL_tries_226 : decode cL_tries 226 = .ok (.invokevirtual 65, 3) := by decide +kernel
theorem dL_tries_229 : decode cL_tries 229 = .ok (.ifCond .ne 20, 3) := by decide +kernel
theorem dL_tries_232 : decode cL_tries 232 = .ok (.aload_n 0, 1) := by decide +kernel
theorem dL_tries_233 : decode cL_tries 233 = .ok (.iload 6, 2) := by decide +kernel
theorem dL_tries_235 : decode cL_tries 235 = .ok (.bipush 6, 2) := by decide +kernel
theorem dL_tries_237 : decode cL_tries 237 = .ok (.invokevirtual 65, 3) := by decide +kernel
theorem dL_tries_240 : decode cL_tries 240 = .ok (.iload 5, 2) := by decide +kernel
theorem dL_tries_242 : decode cL_tries 242 = .ok (.ishr, 1) := by decide +kernel
theorem dL_tries_243 : decode cL_tries 243 = .ok (.iconst 1, 1) := by decide +kernel
theorem dL_tries_244 : decode cL_tries 244 = .ok (.iand, 1) := by decide +kernel
theorem dL_tries_245 : decode cL_tries 245 = .ok (.iconst 1, 1) := by decide +kernel
theorem dL_tries_246 : decode cL_tries 246 = .ok (.if_icmp .ne 14, 3) := by decide +kernel
theorem dL_tries_249 : decode cL_tries 249 = .ok (.aload_n 0, 1) := by decide +kernel
theorem dL_tries_250 : decode cL_tries 250 = .ok (.invokevirtual 99, 3) := by decide +kernel
theorem dL_tries_253 : decode cL_tries 253 = .ok (.ifCond .lt 7, 3) := by decide +kernel
theorem dL_tries_256 : decode cL_tries 256 = .ok (.iconst 1, 1) := by decide +kernel
theorem dL_tries_257 : decode cL_tries 257 = .ok (.goto 4, 3) := by decide +kernel
theorem dL_tries_260 : decode cL_tries 260 = .ok (.iconst 0, 1) := by decide +kernel
theorem dL_tries_261 : decode cL_tries 261 = .ok (.istore 4, 2) := by decide +kernel
theorem dL_tries_263 : decode cL_tries 263 = .ok (.iload_n 1, 1) := by decide +kernel
theorem dL_tries_264 : decode cL_tries 264 = .ok (.bipush 9, 2) := by decide +kernel
theorem dL_tries_266 : decode cL_tries 266 = .ok (.ishr, 1) := by decide +kernel
theorem dL_tries_267 : decode cL_tries 267 = .ok (.iconst 3, 1) := by decide +kernel
theorem dL_tries_268 : decode cL_tries 268 = .ok (.invokestatic 15, 3) := by decide +kernel
theorem dL_tries_271 : decode cL_tries 271 = .ok (.istore 10, 2) := by decide +kernel
theorem dL_tries_273 : decode cL_tries 273 = .ok (.aload_n 0, 1) := by decide +kernel
theorem dL_tries_274 : decode cL_tries 274 = .ok (.iload 7, 2) := by decide +kernel
theorem dL_tries_276 : decode cL_tries 276 = .ok (.iload 10, 2) := by decide +kernel
theorem dL_tries_278 : decode cL_tries 278 = .ok (.invokevirtual 105, 3) := by decide +kernel
theorem dL_tries_281 : decode cL_tries 281 = .ok (.istore 11, 2) := by decide +kernel
theorem dL_tries_283 : decode cL_tries 283 = .ok (.iload 4, 2) := by decide +kernel
theorem dL_tries_285 : decode cL_tries 285 = .ok (.ifCond .eq 85, 3) := by decide +kernel
theorem dL_tries_288 : decode cL_tries 288 = .ok (.iload 11, 2) := by decide +kernel
theorem dL_tries_290 : decode cL_tries 290 = .ok (.ifCond .lt 80, 3) := by decide +kernel
theorem dL_tries_293 : decode cL_tries 293 = .ok (.aload_n 0, 1) := by decide +kernel
theorem dL_tries_294 : decode cL_tries 294 = .ok (.iload 7, 2) := by decide +kernel
theorem dL_tries_296 : decode cL_tries 296 = .ok (.iload 10, 2) := by decide +kernel
theorem dL_tries_298 : decode cL_tries 298 = .ok (.iload 11, 2) := by decide +kernel
theorem dL_tries_300 : decode cL_tries 300 = .ok (.invokestatic 108, 3) := by decide +kernel
theorem dL_tries_303 : decode cL_tries 303 = .ok (.lstore 12, 2) := by decide +kernel
theorem dL_tries_305 : decode cL_tries 305 = .ok (.iconst 0, 1) := by decide +kernel
theorem dL_tries_306 : decode cL_tries 306 = .ok (.istore 14, 2) := by decide +kernel
theorem dL_tries_308 : decode cL_tries 308 = .ok (.iload 14, 2) := by decide +kernel
theorem dL_tries_310 : decode cL_tries 310 = .ok (.iconst 5, 1) := by decide +kernel
theorem dL_tries_311 : decode cL_tries 311 = .ok (.if_icmp .ge 59, 3) := by decide +kernel
theorem dL_tries_314 : decode cL_tries 314 = .ok (.iload 4, 2) := by decide +kernel
theorem dL_tries_316 : decode cL_tries 316 = .ok (.ifCond .eq 54, 3) := by decide +kernel
theorem dL_tries_319 : decode cL_tries 319 = .ok (.aload_n 0, 1) := by decide +kernel
theorem dL_tries_320 : decode cL_tries 320 = .ok (.iload 7, 2) := by decide +kernel
theorem dL_tries_322 : decode cL_tries 322 = .ok (.iload 10, 2) := by decide +kernel
theorem dL_tries_324 : decode cL_tries 324 = .ok (.iload 14, 2) := by decide +kernel
theorem dL_tries_326 : decode cL_tries 326 = .ok (.invokestatic 108, 3) := by decide +kernel
theorem dL_tries_329 : decode cL_tries 329 = .ok (.lstore 15, 2) := by decide +kernel
theorem dL_tries_331 : decode cL_tries 331 = .ok (.lload 15, 2) := by decide +kernel
theorem dL_tries_333 : decode cL_tries 333 = .ok (.lconst 0, 1) := by decide +kernel
theorem dL_tries_334 : decode cL_tries 334 = .ok (.lcmp, 1) := by decide +kernel
theorem dL_tries_335 : decode cL_tries 335 = .ok (.ifCond .lt 22, 3) := by decide +kernel
theorem dL_tries_338 : decode cL_tries 338 = .ok (.lload 15, 2) := by decide +kernel
theorem dL_tries_340 : decode cL_tries 340 = .ok (.lload 15, 2) := by decide +kernel
theorem dL_tries_342 : decode cL_tries 342 = .ok (.ldc2_w 112, 3) := by decide +kernel
theorem dL_tries_345 : decode cL_tries 345 = .ok (.ldiv, 1) := by decide +kernel
theorem dL_tries_346 : decode cL_tries 346 = .ok (.ladd, 1) := by decide +kernel
theorem dL_tries_347 : decode cL_tries 347 = .ok (.ldc2_w 114, 3) := by decide +kernel
theorem dL_tries_350 : decode cL_tries 350 = .ok (.ladd, 1) := by decide +kernel
theorem dL_tries_351 : decode cL_tries 351 = .ok (.lload 12, 2) := by decide +kernel
theorem dL_tries_353 : decode cL_tries 353 = .ok (.lcmp, 1) := by decide +kernel
theorem dL_tries_354 : decode cL_tries 354 = .ok (.ifCond .lt 7, 3) := by decide +kernel
theorem dL_tries_357 : decode cL_tries 357 = .ok (.iconst 1, 1) := by decide +kernel
theorem dL_tries_358 : decode cL_tries 358 = .ok (.goto 4, 3) := by decide +kernel
theorem dL_tries_361 : decode cL_tries 361 = .ok (.iconst 0, 1) := by decide +kernel
theorem dL_tries_362 : decode cL_tries 362 = .ok (.istore 4, 2) := by decide +kernel
theorem dL_tries_364 : decode cL_tries 364 = .ok (.iinc 14 1, 3) := by decide +kernel
theorem dL_tries_367 : decode cL_tries 367 = .ok (.goto (-59), 3) := by decide +kernel
theorem dL_tries_370 : decode cL_tries 370 = .ok (.iload 4, 2) := by decide +kernel
theorem dL_tries_372 : decode cL_tries 372 = .ok (.ifCond .eq 17, 3) := by decide +kernel
theorem dL_tries_375 : decode cL_tries 375 = .ok (.aload_n 0, 1) := by decide +kernel
theorem dL_tries_376 : decode cL_tries 376 = .ok (.iconst 1, 1) := by decide +kernel
theorem dL_tries_377 : decode cL_tries 377 = .ok (.invokevirtual 9, 3) := by decide +kernel
theorem dL_tries_380 : decode cL_tries 380 = .ok (.iload 5, 2) := by decide +kernel
theorem dL_tries_382 : decode cL_tries 382 = .ok (.if_icmp .ne 7, 3) := by decide +kernel
theorem dL_tries_385 : decode cL_tries 385 = .ok (.iconst 1, 1) := by decide +kernel
theorem dL_tries_386 : decode cL_tries 386 = .ok (.goto 4, 3) := by decide +kernel
theorem dL_tries_389 : decode cL_tries 389 = .ok (.iconst 0, 1) := by decide +kernel
theorem dL_tries_390 : decode cL_tries 390 = .ok (.ireturn, 1) := by decide +kernel
theorem dL_share_0 : decode cL_share 0 = .ok (.aload_n 0, 1) := by decide +kernel
theorem dL_share_1 : decode cL_share 1 = .ok (.iload_n 1, 1) := by decide +kernel
theorem dL_share_2 : decode cL_share 2 = .ok (.iload_n 2, 1) := by decide +kernel
theorem dL_share_3 : decode cL_share 3 = .ok (.iload_n 3, 1) := by decide +kernel
theorem dL_share_4 : decode cL_share 4 = .ok (.invokevirtual 47, 3) := by decide +kernel
theorem dL_share_7 : decode cL_share 7 = .ok (.ifCond .ge 7, 3) := by decide +kernel
theorem dL_share_10 : decode cL_share 10 = .ok (.ldc2_w 116, 3) := by decide +kernel
theorem dL_share_13 : decode cL_share 13 = .ok (.lreturn, 1) := by decide +kernel
theorem dL_share_14 : decode cL_share 14 = .ok (.ldc2_w 118, 3) := by decide +kernel
theorem dL_share_17 : decode cL_share 17 = .ok (.aload_n 0, 1) := by decide +kernel
theorem dL_share_18 : decode cL_share 18 = .ok (.iload_n 2, 1) := by decide +kernel
theorem dL_share_19 : decode cL_share 19 = .ok (.iconst 0, 1) := by decide +kernel
theorem dL_share_20 : decode cL_share 20 = .ok (.invokestatic 76, 3) := by decide +kernel
theorem dL_share_23 : decode cL_share 23 = .ok (.i2l, 1) := by decide +kernel
theorem dL_share_24 : decode cL_share 24 = .ok (.lmul, 1) := by decide +kernel
theorem dL_share_25 : decode cL_share 25 = .ok (.aload_n 0, 1) := by decide +kernel
theorem dL_share_26 : decode cL_share 26 = .ok (.iload_n 2, 1) := by decide +kernel
theorem dL_share_27 : decode cL_share 27 = .ok (.iconst 4, 1) := by decide +kernel
theorem dL_share_28 : decode cL_share 28 = .ok (.invokevirtual 62, 3) := by decide +kernel
theorem dL_share_31 : decode cL_share 31 = .ok (.i2l, 1) := by decide +kernel
theorem dL_share_32 : decode cL_share 32 = .ok (.ldiv, 1) := by decide +kernel
theorem dL_share_33 : decode cL_share 33 = .ok (.lstore 4, 2) := by decide +kernel
theorem dL_share_35 : decode cL_share 35 = .ok (.ldc2_w 118, 3) := by decide +kernel
theorem dL_share_38 : decode cL_share 38 = .ok (.aload_n 0, 1) := by decide +kernel
theorem dL_share_39 : decode cL_share 39 = .ok (.iload_n 2, 1) := by decide +kernel
theorem dL_share_40 : decode cL_share 40 = .ok (.iconst 1, 1) := by decide +kernel
theorem dL_share_41 : decode cL_share 41 = .ok (.invokestatic 76, 3) := by decide +kernel
theorem dL_share_44 : decode cL_share 44 = .ok (.i2l, 1) := by decide +kernel
theorem dL_share_45 : decode cL_share 45 = .ok (.lmul, 1) := by decide +kernel
theorem dL_share_46 : decode cL_share 46 = .ok (.aload_n 0, 1) := by decide +kernel
theorem dL_share_47 : decode cL_share 47 = .ok (.iload_n 2, 1) := by decide +kernel
theorem dL_share_48 : decode cL_share 48 = .ok (.iconst 5, 1) := by decide +kernel
theorem dL_share_49 : decode cL_share 49 = .ok (.invokevirtual 62, 3) := by decide +kernel
theorem dL_share_52 : decode cL_share 52 = .ok (.i2l, 1) := by decide +kernel
theorem dL_share_53 : decode cL_share 53 = .ok (.ldiv, 1) := by decide +kernel
theorem dL_share_54 : decode cL_share 54 = .ok (.lstore 6, 2) := by decide +kernel
theorem dL_share_56 : decode cL_share 56 = .ok (.aload_n 0, 1) := by decide +kernel
theorem dL_share_57 : decode cL_share 57 = .ok (.invokevirtual 99, 3) := by decide +kernel
theorem dL_share_60 : decode cL_share 60 = .ok (.istore 8, 2) := by decide +kernel
theorem dL_share_62 : decode cL_share 62 = .ok (.lload 4, 2) := by decide +kernel
theorem dL_share_64 : decode cL_share 64 = .ok (.lload 6, 2) := by decide +kernel
theorem dL_share_66 : decode cL_share 66 = .ok (.lcmp, 1) := by decide +kernel
theorem dL_share_67 : decode cL_share 67 = .ok (.ifCond .le 8, 3) := by decide +kernel
theorem dL_share_70 : decode cL_share 70 = .ok (.lload 4, 2) := by decide +kernel
theorem dL_share_72 : decode cL_share 72 = .ok (.goto 5, 3) := by decide +kernel
theorem dL_share_75 : decode cL_share 75 = .ok (.lload 6, 2) := by decide +kernel
theorem dL_share_77 : decode cL_share 77 = .ok (.lreturn, 1) := by decide +kernel
theorem dL_law_0 : decode cL_law 0 = .ok (.new 10, 3) := by decide +kernel
theorem dL_law_3 : decode cL_law 3 = .ok (.dup, 1) := by decide +kernel
theorem dL_law_4 : decode cL_law 4 = .ok (.invokespecial 120, 3) := by decide +kernel
theorem dL_law_7 : decode cL_law 7 = .ok (.astore_n 1, 1) := by decide +kernel
theorem dL_law_8 : decode cL_law 8 = .ok (.aload_n 1, 1) := by decide +kernel
theorem dL_law_9 : decode cL_law 9 = .ok (.invokestatic 121, 3) := by decide +kernel
theorem dL_law_12 : decode cL_law 12 = .ok (.ifCond .eq 25, 3) := by decide +kernel
theorem dL_law_15 : decode cL_law 15 = .ok (.aload_n 1, 1) := by decide +kernel
theorem dL_law_16 : decode cL_law 16 = .ok (.invokevirtual 99, 3) := by decide +kernel
theorem dL_law_19 : decode cL_law 19 = .ok (.bipush (-5), 2) := by decide +kernel
theorem dL_law_21 : decode cL_law 21 = .ok (.if_icmp .ne 16, 3) := by decide +kernel
theorem dL_law_24 : decode cL_law 24 = .ok (.aload_n 1, 1) := by decide +kernel
theorem dL_law_25 : decode cL_law 25 = .ok (.invokevirtual 125, 3) := by decide +kernel
theorem dL_law_28 : decode cL_law 28 = .ok (.lconst 0, 1) := by decide +kernel
theorem dL_law_29 : decode cL_law 29 = .ok (.lcmp, 1) := by decide +kernel
theorem dL_law_30 : decode cL_law 30 = .ok (.ifCond .ne 7, 3) := by decide +kernel
theorem dL_law_33 : decode cL_law 33 = .ok (.iconst 1, 1) := by decide +kernel
theorem dL_law_34 : decode cL_law 34 = .ok (.goto 4, 3) := by decide +kernel
theorem dL_law_37 : decode cL_law 37 = .ok (.iconst 0, 1) := by decide +kernel
theorem dL_law_38 : decode cL_law 38 = .ok (.istore_n 2, 1) := by decide +kernel
theorem dL_law_39 : decode cL_law 39 = .ok (.aload_n 0, 1) := by decide +kernel
theorem dL_law_40 : decode cL_law 40 = .ok (.arraylength, 1) := by decide +kernel
theorem dL_law_41 : decode cL_law 41 = .ok (.iconst 3, 1) := by decide +kernel
theorem dL_law_42 : decode cL_law 42 = .ok (.idiv, 1) := by decide +kernel
theorem dL_law_43 : decode cL_law 43 = .ok (.bipush 32, 2) := by decide +kernel
theorem dL_law_45 : decode cL_law 45 = .ok (.if_icmp .le 8, 3) := by decide +kernel
theorem dL_law_48 : decode cL_law 48 = .ok (.bipush 32, 2) := by decide +kernel
theorem dL_law_50 : decode cL_law 50 = .ok (.goto 7, 3) := by decide +kernel
theorem dL_law_53 : decode cL_law 53 = .ok (.aload_n 0, 1) := by decide +kernel
theorem dL_law_54 : decode cL_law 54 = .ok (.arraylength, 1) := by decide +kernel
theorem dL_law_55 : decode cL_law 55 = .ok (.iconst 3, 1) := by decide +kernel
theorem dL_law_56 : decode cL_law 56 = .ok (.idiv, 1) := by decide +kernel
theorem dL_law_57 : decode cL_law 57 = .ok (.istore_n 3, 1) := by decide +kernel
theorem dL_law_58 : decode cL_law 58 = .ok (.iconst 0, 1) := by decide +kernel
theorem dL_law_59 : decode cL_law 59 = .ok (.istore 4, 2) := by decide +kernel
theorem dL_law_61 : decode cL_law 61 = .ok (.iload 4, 2) := by decide +kernel
theorem dL_law_63 : decode cL_law 63 = .ok (.iload_n 3, 1) := by decide +kernel
theorem dL_law_64 : decode cL_law 64 = .ok (.if_icmp .ge 133, 3) := by decide +kernel
theorem dL_law_67 : decode cL_law 67 = .ok (.iload_n 2, 1) := by decide +kernel
theorem dL_law_68 : decode cL_law 68 = .ok (.ifCond .eq 129, 3) := by decide +kernel
theorem dL_law_71 : decode cL_law 71 = .ok (.aload_n 1, 1) := by decide +kernel
theorem dL_law_72 : decode cL_law 72 = .ok (.bipush 16, 2) := by decide +kernel
theorem dL_law_74 : decode cL_law 74 = .ok (.invokevirtual 9, 3) := by decide +kernel
theorem dL_law_77 : decode cL_law 77 = .ok (.istore 5, 2) := by decide +kernel
theorem dL_law_79 : decode cL_law 79 = .ok (.aload_n 1, 1) := by decide +kernel
theorem dL_law_80 : decode cL_law 80 = .ok (.aload_n 0, 1) := by decide +kernel
theorem dL_law_81 : decode cL_law 81 = .ok (.iconst 3, 1) := by decide +kernel
theorem dL_law_82 : decode cL_law 82 = .ok (.iload 4, 2) := by decide +kernel
theorem dL_law_84 : decode cL_law 84 = .ok (.imul, 1) := by decide +kernel
theorem dL_law_85 : decode cL_law 85 = .ok (.invokestatic 129, 3) := by decide +kernel
theorem dL_law_88 : decode cL_law 88 = .ok (.bipush 21, 2) := by decide +kernel
theorem dL_law_90 : decode cL_law 90 = .ok (.invokestatic 15, 3) := by decide +kernel
theorem dL_law_93 : decode cL_law 93 = .ok (.aload_n 0, 1) := by decide +kernel
theorem dL_law_94 : decode cL_law 94 = .ok (.iconst 3, 1) := by decide +kernel
theorem dL_law_95 : decode cL_law 95 = .ok (.iload 4, 2) := by decide +kernel
theorem dL_law_97 : decode cL_law 97 = .ok (.imul, 1) := by decide +kernel
theorem dL_law_98 : decode cL_law 98 = .ok (.iconst 1, 1) := by decide +kernel
theorem dL_law_99 : decode cL_law 99 = .ok (.iadd, 1) := by decide +kernel
theorem dL_law_100 : decode cL_law 100 = .ok (.invokestatic 129, 3) := by decide +kernel
theorem dL_law_103 : decode cL_law 103 = .ok (.aload_n 0, 1) := by decide +kernel
theorem dL_law_104 : decode cL_law 104 = .ok (.iconst 3, 1) := by decide +kernel
theorem dL_law_105 : decode cL_law 105 = .ok (.iload 4, 2) := by decide +kernel
theorem dL_law_107 : decode cL_law 107 = .ok (.imul, 1) := by decide +kernel
theorem dL_law_108 : decode cL_law 108 = .ok (.iconst 2, 1) := by decide +kernel
theorem dL_law_109 : decode cL_law 109 = .ok (.iadd, 1) := by decide +kernel
theorem dL_law_110 : decode cL_law 110 = .ok (.invokestatic 129, 3) := by decide +kernel
theorem dL_law_113 : decode cL_law 113 = .ok (.invokestatic 133, 3) := by decide +kernel
theorem dL_law_116 : decode cL_law 116 = .ok (.istore 6, 2) := by decide +kernel
theorem dL_law_118 : decode cL_law 118 = .ok (.aload_n 1, 1) := by decide +kernel
theorem dL_law_119 : decode cL_law 119 = .ok (.bipush 16, 2) := by decide +kernel
theorem dL_law_121 : decode cL_law 121 = .ok (.invokevirtual 9, 3) := by decide +kernel
theorem dL_law_124 : decode cL_law 124 = .ok (.iload 6, 2) := by decide +kernel
theorem dL_law_126 : decode cL_law 126 = .ok (.ifCond .ge 8, 3) := by decide +kernel
theorem dL_law_129 : decode cL_law 129 = .ok (.iload 5, 2) := by decide +kernel
theorem dL_law_131 : decode cL_law 131 = .ok (.goto 19, 3) := by decide +kernel
theorem dL_law_134 : decode cL_law 134 = .ok (.iload 5, 2) := by decide +kernel
theorem dL_law_136 : decode cL_law 136 = .ok (.bipush 6, 2) := by decide +kernel
theorem dL_law_138 : decode cL_law 138 = .ok (.if_icmp .ne 8, 3) := by decide +kernel
theorem dL_law_141 : decode cL_law 141 = .ok (.bipush 6, 2) := by decide +kernel
theorem dL_law_143 : decode cL_law 143 = .ok (.goto 7, 3) := by decide +kernel
theorem dL_law_146 : decode cL_law 146 = .ok (.iload 5, 2) := by decide +kernel
theorem dL_law_148 : decode cL_law 148 = .ok (.iconst 1, 1) := by decide +kernel
theorem dL_law_149 : decode cL_law 149 = .ok (.iadd, 1) := by decide +kernel
theorem dL_law_150 : decode cL_law 150 = .ok (.if_icmp .ne 39, 3) := by decide +kernel
theorem dL_law_153 : decode cL_law 153 = .ok (.aload_n 1, 1) := by decide +kernel
theorem dL_law_154 : decode cL_law 154 = .ok (.invokestatic 121, 3) := by decide +kernel
theorem dL_law_157 : decode cL_law 157 = .ok (.ifCond .eq 32, 3) := by decide +kernel
theorem dL_law_160 : decode cL_law 160 = .ok (.iload 4, 2) := by decide +kernel
theorem dL_law_162 : decode cL_law 162 = .ok (.iconst 4, 1) := by decide +kernel
theorem dL_law_163 : decode cL_law 163 = .ok (.irem, 1) := by decide +kernel
theorem dL_law_164 : decode cL_law 164 = .ok (.iconst 3, 1) := by decide +kernel
theorem dL_law_165 : decode cL_law 165 = .ok (.if_icmp .ne 20, 3) := by decide +kernel
theorem dL_law_168 : decode cL_law 168 = .ok (.aload_n 1, 1) := by decide +kernel
theorem dL_law_169 : decode cL_law 169 = .ok (.aload_n 0, 1) := by decide +kernel
theorem dL_law_170 : decode cL_law 170 = .ok (.iconst 3, 1) := by decide +kernel
theorem dL_law_171 : decode cL_law 171 = .ok (.iload 4, 2) := by decide +kernel
theorem dL_law_173 : decode cL_law 173 = .ok (.imul, 1) := by decide +kernel
theorem dL_law_174 : decode cL_law 174 = .ok (.iconst 2, 1) := by decide +kernel
theorem dL_law_175 : decode cL_law 175 = .ok (.iadd, 1) := by decide +kernel
theorem dL_law_176 : decode cL_law 176 = .ok (.invokestatic 129, 3) := by decide +kernel
theorem dL_law_179 : decode cL_law 179 = .ok (.invokestatic 137, 3) := by decide +kernel
theorem dL_law_182 : decode cL_law 182 = .ok (.ifCond .eq 7, 3) := by decide +kernel
theorem dL_law_185 : decode cL_law 185 = .ok (.iconst 1, 1) := by decide +kernel
theorem dL_law_186 : decode cL_law 186 = .ok (.goto 4, 3) := by decide +kernel
theorem dL_law_189 : decode cL_law 189 = .ok (.iconst 0, 1) := by decide +kernel
theorem dL_law_190 : decode cL_law 190 = .ok (.istore_n 2, 1) := by decide +kernel
theorem dL_law_191 : decode cL_law 191 = .ok (.iinc 4 1, 3) := by decide +kernel
theorem dL_law_194 : decode cL_law 194 = .ok (.goto (-133), 3) := by decide +kernel
theorem dL_law_197 : decode cL_law 197 = .ok (.iload_n 2, 1) := by decide +kernel
theorem dL_law_198 : decode cL_law 198 = .ok (.ireturn, 1) := by decide +kernel
