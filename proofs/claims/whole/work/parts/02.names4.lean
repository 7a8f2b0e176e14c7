theorem dX11_explains_4 : decode cX11_explains 4 = .ok (.aload_n 0, 1) := by decide +kernel
theorem dX11_explains_5 : decode cX11_explains 5 = .ok (.getfield 227, 3) := by decide +kernel
theorem dX11_explains_8 : decode cX11_explains 8 = .ok (.ifCond .ne 7, 3) := by decide +kernel
theorem dX11_explains_11 : decode cX11_explains 11 = .ok (.iconst 0, 1) := by decide +kernel
theorem dX11_explains_12 : decode cX11_explains 12 = .ok (.goto 14, 3) := by decide +kernel
theorem dX11_explains_15 : decode cX11_explains 15 = .ok (.aload_n 0, 1) := by decide +kernel
theorem dX11_explains_16 : decode cX11_explains 16 = .ok (.getfield 73, 3) := by decide +kernel
theorem dX11_explains_19 : decode cX11_explains 19 = .ok (.aload_n 0, 1) := by decide +kernel
theorem dX11_explains_20 : decode cX11_explains 20 = .ok (.getfield 227, 3) := by decide +kernel
theorem dX11_explains_23 : decode cX11_explains 23 = .ok (.iconst 1, 1) := by decide +kernel
theorem dX11_explains_24 : decode cX11_explains 24 = .ok (.isub, 1) := by decide +kernel
theorem dX11_explains_25 : decode cX11_explains 25 = .ok (.iaload, 1) := by decide +kernel
theorem dX11_explains_26 : decode cX11_explains 26 = .ok (.istore_n 1, 1) := by decide +kernel
theorem dX11_explains_27 : decode cX11_explains 27 = .ok (.aload_n 0, 1) := by decide +kernel
theorem dX11_explains_28 : decode cX11_explains 28 = .ok (.ldc 233, 2) := by decide +kernel
theorem dX11_explains_30 : decode cX11_explains 30 = .ok (.putfield 261, 3) := by decide +kernel
theorem dX11_explains_33 : decode cX11_explains 33 = .ok (.iconst 0, 1) := by decide +kernel
theorem dX11_explains_34 : decode cX11_explains 34 = .ok (.istore_n 2, 1) := by decide +kernel
theorem dX11_explains_35 : decode cX11_explains 35 = .ok (.iload_n 2, 1) := by decide +kernel
theorem dX11_explains_36 : decode cX11_explains 36 = .ok (.iconst 3, 1) := by decide +kernel
theorem dX11_explains_37 : decode cX11_explains 37 = .ok (.if_icmp .gt 218, 3) := by decide +kernel
theorem dX11_explains_40 : decode cX11_explains 40 = .ok (.iconst 0, 1) := by decide +kernel
theorem dX11_explains_41 : decode cX11_explains 41 = .ok (.istore_n 3, 1) := by decide +kernel
theorem dX11_explains_42 : decode cX11_explains 42 = .ok (.iload_n 3, 1) := by decide +kernel
theorem dX11_explains_43 : decode cX11_explains 43 = .ok (.iconst 1, 1) := by decide +kernel
theorem dX11_explains_44 : decode cX11_explains 44 = .ok (.aload_n 0, 1) := by decide +kernel
theorem dX11_explains_45 : decode cX11_explains 45 = .ok (.getfield 215, 3) := by decide +kernel
theorem dX11_explains_48 : decode cX11_explains 48 = .ok (.ishl, 1) := by decide +kernel
theorem dX11_explains_49 : decode cX11_explains 49 = .ok (.if_icmp .ge 200, 3) := by decide +kernel
theorem dX11_explains_52 : decode cX11_explains 52 = .ok (.iload_n 3, 1) := by decide +kernel
theorem dX11_explains_53 : decode cX11_explains 53 = .ok (.invokestatic 264, 3) := by decide +kernel
theorem dX11_explains_56 : decode cX11_explains 56 = .ok (.iload_n 2, 1) := by decide +kernel
theorem dX11_explains_57 : decode cX11_explains 57 = .ok (.if_icmp .eq 6, 3) := by decide +kernel
theorem dX11_explains_60 : decode cX11_explains 60 = .ok (.goto 183, 3) := by decide +kernel
theorem dX11_explains_63 : decode cX11_explains 63 = .ok (.aload_n 0, 1) := by decide +kernel
theorem dX11_explains_64 : decode cX11_explains 64 = .ok (.iload_n 3, 1) := by decide +kernel
theorem dX11_explains_65 : decode cX11_explains 65 = .ok (.invokevirtual 244, 3) := by decide +kernel
theorem dX11_explains_68 : decode cX11_explains 68 = .ok (.ldc 233, 2) := by decide +kernel
theorem dX11_explains_70 : decode cX11_explains 70 = .ok (.istore 4, 2) := by decide +kernel
theorem dX11_explains_72 : decode cX11_explains 72 = .ok (.iconst 0, 1) := by decide +kernel
theorem dX11_explains_73 : decode cX11_explains 73 = .ok (.istore 5, 2) := by decide +kernel
theorem dX11_explains_75 : decode cX11_explains 75 = .ok (.iconst 0, 1) := by decide +kernel
theorem dX11_explains_76 : decode cX11_explains 76 = .ok (.istore 6, 2) := by decide +kernel
theorem dX11_explains_78 : decode cX11_explains 78 = .ok (.iconst 0, 1) := by decide +kernel
theorem dX11_explains_79 : decode cX11_explains 79 = .ok (.istore 7, 2) := by decide +kernel
theorem dX11_explains_81 : decode cX11_explains 81 = .ok (.iload 7, 2) := by decide +kernel
theorem dX11_explains_83 : decode cX11_explains 83 = .ok (.iload_n 1, 1) := by decide +kernel
theorem dX11_explains_84 : decode cX11_explains 84 = .ok (.if_icmp .gt 54, 3) := by decide +kernel
theorem dX11_explains_87 : decode cX11_explains 87 = .ok (.aload_n 0, 1) := by decide +kernel
theorem dX11_explains_88 : decode cX11_explains 88 = .ok (.iload 7, 2) := by decide +kernel
theorem dX11_explains_90 : decode cX11_explains 90 = .ok (.iload_n 1, 1) := by decide +kernel
theorem dX11_explains_91 : decode cX11_explains 91 = .ok (.invokevirtual 267, 3) := by decide +kernel
theorem dX11_explains_94 : decode cX11_explains 94 = .ok (.istore 8, 2) := by decide +kernel
theorem dX11_explains_96 : decode cX11_explains 96 = .ok (.iconst 2, 1) := by decide +kernel
theorem dX11_explains_97 : decode cX11_explains 97 = .ok (.iload_n 2, 1) := by decide +kernel
theorem dX11_explains_98 : decode cX11_explains 98 = .ok (.imul, 1) := by decide +kernel
theorem dX11_explains_99 : decode cX11_explains 99 = .ok (.iload 8, 2) := by decide +kernel
theorem dX11_explains_101 : decode cX11_explains 101 = .ok (.invokestatic 264, 3) := by decide +kernel
theorem dX11_explains_104 : decode cX11_explains 104 = .ok (.iadd, 1) := by decide +kernel
theorem dX11_explains_105 : decode cX11_explains 105 = .ok (.iload 4, 2) := by decide +kernel
theorem dX11_explains_107 : decode cX11_explains 107 = .ok (.if_icmp .lt 6, 3) := by decide +kernel
theorem dX11_explains_110 : decode cX11_explains 110 = .ok (.goto 22, 3) := by decide +kernel
theorem dX11_explains_113 : decode cX11_explains 113 = .ok (.iconst 2, 1) := by decide +kernel
theorem dX11_explains_114 : decode cX11_explains 114 = .ok (.iload_n 2, 1) := by decide +kernel
theorem dX11_explains_115 : decode cX11_explains 115 = .ok (.imul, 1) := by decide +kernel
theorem dX11_explains_116 : decode cX11_explains 116 = .ok (.iload 8, 2) := by decide +kernel
theorem dX11_explains_118 : decode cX11_explains 118 = .ok (.invokestatic 264, 3) := by decide +kernel
theorem dX11_explains_121 : decode cX11_explains 121 = .ok (.iadd, 1) := by decide +kernel
theorem dX11_explains_122 : decode cX11_explains 122 = .ok (.istore 4, 2) := by decide +kernel
theorem dX11_explains_124 : decode cX11_explains 124 = .ok (.iload 7, 2) := by decide +kernel
theorem dX11_explains_126 : decode cX11_explains 126 = .ok (.istore 5, 2) := by decide +kernel
theorem dX11_explains_128 : decode cX11_explains 128 = .ok (.iload 8, 2) := by decide +kernel
theorem dX11_explains_130 : decode cX11_explains 130 = .ok (.istore 6, 2) := by decide +kernel
theorem dX11_explains_132 : decode cX11_explains 132 = .ok (.iinc 7 1, 3) := by decide +kernel
theorem dX11_explains_135 : decode cX11_explains 135 = .ok (.goto (-54), 3) := by decide +kernel
theorem dX11_explains_138 : decode cX11_explains 138 = .ok (.iload 4, 2) := by decide +kernel
theorem dX11_explains_140 : decode cX11_explains 140 = .ok (.aload_n 0, 1) := by decide +kernel
theorem dX11_explains_141 : decode cX11_explains 141 = .ok (.getfield 261, 3) := by decide +kernel
theorem dX11_explains_144 : decode cX11_explains 144 = .ok (.if_icmp .le 6, 3) := by decide +kernel
theorem dX11_explains_147 : decode cX11_explains 147 = .ok (.goto 96, 3) := by decide +kernel
theorem dX11_explains_150 : decode cX11_explains 150 = .ok (.iload 4, 2) := by decide +kernel
theorem dX11_explains_152 : decode cX11_explains 152 = .ok (.aload_n 0, 1) := by decide +kernel
theorem dX11_explains_153 : decode cX11_explains 153 = .ok (.getfield 261, 3) := by decide +kernel
theorem dX11_explains_156 : decode cX11_explains 156 = .ok (.if_icmp .ge 46, 3) := by decide +kernel
theorem dX11_explains_159 : decode cX11_explains 159 = .ok (.aload_n 0, 1) := by decide +kernel
theorem dX11_explains_160 : decode cX11_explains 160 = .ok (.iload 4, 2) := by decide +kernel
theorem dX11_explains_162 : decode cX11_explains 162 = .ok (.putfield 261, 3) := by decide +kernel
theorem dX11_explains_165 : decode cX11_explains 165 = .ok (.aload_n 0, 1) := by decide +kernel
theorem dX11_explains_166 : decode cX11_explains 166 = .ok (.iload_n 3, 1) := by decide +kernel
theorem dX11_explains_167 : decode cX11_explains 167 = .ok (.putfield 271, 3) := by decide +kernel
theorem dX11_explains_170 : decode cX11_explains 170 = .ok (.aload_n 0, 1) := by decide +kernel
theorem dX11_explains_171 : decode cX11_explains 171 = .ok (.iload 5, 2) := by decide +kernel
theorem dX11_explains_173 : decode cX11_explains 173 = .ok (.putfield 274, 3) := by decide +kernel
theorem dX11_explains_176 : decode cX11_explains 176 = .ok (.aload_n 0, 1) := by decide +kernel
theorem dX11_explains_177 : decode cX11_explains 177 = .ok (.iload 6, 2) := by decide +kernel
theorem dX11_explains_179 : decode cX11_explains 179 = .ok (.putfield 277, 3) := by decide +kernel
theorem dX11_explains_182 : decode cX11_explains 182 = .ok (.aload_n 0, 1) := by decide +kernel
theorem dX11_explains_183 : decode cX11_explains 183 = .ok (.iconst 0, 1) := by decide +kernel
theorem dX11_explains_184 : decode cX11_explains 184 = .ok (.putfield 280, 3) := by decide +kernel
theorem dX11_explains_187 : decode cX11_explains 187 = .ok (.aload_n 0, 1) := by decide +kernel
theorem dX11_explains_188 : decode cX11_explains 188 = .ok (.iconst (-1), 1) := by decide +kernel
theorem dX11_explains_189 : decode cX11_explains 189 = .ok (.putfield 283, 3) := by decide +kernel
theorem dX11_explains_192 : decode cX11_explains 192 = .ok (.aload_n 0, 1) := by decide +kernel
theorem dX11_explains_193 : decode cX11_explains 193 = .ok (.iconst 0, 1) := by decide +kernel
theorem dX11_explains_194 : decode cX11_explains 194 = .ok (.putfield 286, 3) := by decide +kernel
theorem dX11_explains_197 : decode cX11_explains 197 = .ok (.aload_n 0, 1) := by decide +kernel
theorem dX11_explains_198 : decode cX11_explains 198 = .ok (.iconst (-1), 1) := by decide +kernel
theorem dX11_explains_199 : decode cX11_explains 199 = .ok (.putfield 289, 3) := by decide +kernel
theorem dX11_explains_202 : decode cX11_explains 202 = .ok (.aload_n 0, 1) := by decide +kernel
theorem dX11_explains_203 : decode cX11_explains 203 = .ok (.dup, 1) := by decide +kernel
theorem dX11_explains_204 : decode cX11_explains 204 = .ok (.getfield 280, 3) := by decide +kernel
theorem dX11_explains_207 : decode cX11_explains 207 = .ok (.iconst 1, 1) := by decide +kernel
theorem dX11_explains_208 : decode cX11_explains 208 = .ok (.iadd, 1) := by decide +kernel
theorem dX11_explains_209 : decode cX11_explains 209 = .ok (.putfield 280, 3) := by decide +kernel
theorem dX11_explains_212 : decode cX11_explains 212 = .ok (.aload_n 0, 1) := by decide +kernel
theorem dX11_explains_213 : decode cX11_explains 213 = .ok (.dup, 1) := by decide +kernel
theorem dX11_explains_214 : decode cX11_explains 214 = .ok (.getfield 283, 3) := by decide +kernel
theorem dX11_explains_217 : decode cX11_explains 217 = .ok (.iload_n 3, 1) := by decide +kernel
theorem dX11_explains_218 : decode cX11_explains 218 = .ok (.iand, 1) := by decide +kernel
theorem dX11_explains_219 : decode cX11_explains 219 = .ok (.putfield 283, 3) := by decide +kernel
theorem dX11_explains_222 : decode cX11_explains 222 = .ok (.aload_n 0, 1) := by decide +kernel
theorem dX11_explains_223 : decode cX11_explains 223 = .ok (.dup, 1) := by decide +kernel
theorem dX11_explains_224 : decode cX11_explains 224 = .ok (.getfield 286, 3) := by decide +kernel
theorem dX11_explains_227 : decode cX11_explains 227 = .ok (.iload_n 3, 1) := by decide +kernel
theorem dX11_explains_228 : decode cX11_explains 228 = .ok (.ior, 1) := by decide +kernel
theorem dX11_explains_229 : decode cX11_explains 229 = .ok (.putfield 286, 3) := by decide +kernel
theorem dX11_explains_232 : decode cX11_explains 232 = .ok (.aload_n 0, 1) := by decide +kernel
theorem dX11_explains_233 : decode cX11_explains 233 = .ok (.dup, 1) := by decide +kernel
theorem dX11_explains_234 : decode cX11_explains 234 = .ok (.getfield 289, 3) := by decide +kernel
theorem dX11_explains_237 : decode cX11_explains 237 = .ok (.iload 6, 2) := by decide +kernel
theorem dX11_explains_239 : decode cX11_explains 239 = .ok (.iand, 1) := by decide +kernel
theorem dX11_explains_240 : decode cX11_explains 240 = .ok (.putfield 289, 3) := by decide +kernel
theorem dX11_explains_243 : decode cX11_explains 243 = .ok (.iinc 3 1, 3) := by decide +kernel
theorem dX11_explains_246 : decode cX11_explains 246 = .ok (.goto (-204), 3) := by decide +kernel
theorem dX11_explains_249 : decode cX11_explains 249 = .ok (.iinc 2 1, 3) := by decide +kernel
theorem dX11_explains_252 : decode cX11_explains 252 = .ok (.goto (-217), 3) := by decide +kernel
theorem dX11_explains_255 : decode cX11_explains 255 = .ok (.return_, 1) := by decide +kernel
theorem dX11_explain_0 : decode cX11_explain 0 = .ok (.aload_n 0, 1) := by decide +kernel
theorem dX11_explain_1 : decode cX11_explain 1 = .ok (.getfield 215, 3) := by decide +kernel
theorem dX11_explain_4 : decode cX11_explain 4 = .ok (.ifCond .eq 13, 3) := by decide +kernel
theorem dX11_explain_7 : decode cX11_explain 7 = .ok (.iload_n 1, 1) := by decide +kernel
theorem dX11_explain_8 : decode cX11_explain 8 = .ok (.iconst 0, 1) := by decide +kernel
theorem dX11_explain_9 : decode cX11_explain 9 = .ok (.bipush 7, 2) := by decide +kernel
theorem dX11_explain_11 : decode cX11_explain 11 = .ok (.invokestatic 98, 3) := by decide +kernel
theorem dX11_explain_14 : decode cX11_explain 14 = .ok (.ifCond .ne 5, 3) := by decide +kernel
theorem dX11_explain_17 : decode cX11_explain 17 = .ok (.iconst (-1), 1) := by decide +kernel
theorem dX11_explain_18 : decode cX11_explain 18 = .ok (.ireturn, 1) := by decide +kernel
theorem dX11_explain_19 : decode cX11_explain 19 = .ok (.aload_n 0, 1) := by decide +kernel
theorem dX11_explain_20 : decode cX11_explain 20 = .ok (.invokevirtual 292, 3) := by decide +kernel
theorem dX11_explain_23 : decode cX11_explain 23 = .ok (.iload_n 1, 1) := by decide +kernel
theorem dX11_explain_24 : decode cX11_explain 24 = .ok (.tableswitch 79 0 6 #[44, 49, 54, 59, 64, 69, 74], 44) := by decide +kernel
theorem dX11_explain_68 : decode cX11_explain 68 = .ok (.aload_n 0, 1) := by decide +kernel
theorem dX11_explain_69 : decode cX11_explain 69 = .ok (.getfield 261, 3) := by decide +kernel
theorem dX11_explain_72 : decode cX11_explain 72 = .ok (.ireturn, 1) := by decide +kernel
theorem dX11_explain_73 : decode cX11_explain 73 = .ok (.aload_n 0, 1) := by decide +kernel
theorem dX11_explain_74 : decode cX11_explain 74 = .ok (.getfield 271, 3) := by decide +kernel
theorem dX11_explain_77 : decode cX11_explain 77 = .ok (.ireturn, 1) := by decide +kernel
theorem dX11_explain_78 : decode cX11_explain 78 = .ok (.aload_n 0, 1) := by decide +kernel
theorem dX11_explain_79 : decode cX11_explain 79 = .ok (.getfield 274, 3) := by decide +kernel
theorem dX11_explain_82 : decode cX11_explain 82 = .ok (.ireturn, 1) := by decide +kernel
theorem dX11_explain_83 : decode cX11_explain 83 = .ok (.aload_n 0, 1) := by decide +kernel
theorem dX11_explain_84 : decode cX11_explain 84 = .ok (.getfield 277, 3) := by decide +kernel
theorem dX11_explain_87 : decode cX11_explain 87 = .ok (.ireturn, 1) := by decide +kernel
theorem dX11_explain_88 : decode cX11_explain 88 = .ok (.aload_n 0, 1) := by decide +kernel
theorem dX11_explain_89 : decode cX11_explain 89 = .ok (.getfield 280, 3) := by decide +kernel
theorem dX11_explain_92 : decode cX11_explain 92 = .ok (.ireturn, 1) := by decide +kernel
theorem dX11_explain_93 : decode cX11_explain 93 = .ok (.aload_n 0, 1) := by decide +kernel
theorem dX11_explain_94 : decode cX11_explain 94 = .ok (.getfield 283, 3) := by decide +kernel
theorem dX11_explain_97 : decode cX11_explain 97 = .ok (.ireturn, 1) := by decide +kernel
theorem dX11_explain_98 : decode cX11_explain 98 = .ok (.aload_n 0, 1) := by decide +kernel
theorem dX11_explain_99 : decode cX11_explain 99 = .ok (.getfield 286, 3) := by decide +kernel
theorem dX11_explain_102 : decode cX11_explain 102 = .ok (.ireturn, 1) := by decide +kernel
theorem dX11_explain_103 : decode cX11_explain 103 = .ok (.aload_n 0, 1) := by decide +kernel
theorem dX11_explain_104 : decode cX11_explain 104 = .ok (.getfield 289, 3) := by decide +kernel
theorem dX11_explain_107 : decode cX11_explain 107 = .ok (.ireturn, 1) := by decide +kernel
theorem dX11_altered_0 : decode cX11_altered 0 = .ok (.iload_n 1, 1) := by decide +kernel
theorem dX11_altered_1 : decode cX11_altered 1 = .ok (.iconst 0, 1) := by decide +kernel
theorem dX11_altered_2 : decode cX11_altered 2 = .ok (.aload_n 0, 1) := by decide +kernel
theorem dX11_altered_3 : decode cX11_altered 3 = .ok (.getfield 227, 3) := by decide +kernel
theorem dX11_altered_6 : decode cX11_altered 6 = .ok (.iconst 1, 1) := by decide +kernel
theorem dX11_altered_7 : decode cX11_altered 7 = .ok (.isub, 1) := by decide +kernel
theorem dX11_altered_8 : decode cX11_altered 8 = .ok (.invokestatic 98, 3) := by decide +kernel
theorem dX11_altered_11 : decode cX11_altered 11 = .ok (.ifCond .eq 14, 3) := by decide +kernel
theorem dX11_altered_14 : decode cX11_altered 14 = .ok (.iload_n 2, 1) := by decide +kernel
theorem dX11_altered_15 : decode cX11_altered 15 = .ok (.iconst 0, 1) := by decide +kernel
theorem dX11_altered_16 : decode cX11_altered 16 = .ok (.sipush 999, 3) := by decide +kernel
theorem dX11_altered_19 : decode cX11_altered 19 = .ok (.invokestatic 98, 3) := by decide +kernel
theorem dX11_altered_22 : decode cX11_altered 22 = .ok (.ifCond .ne 5, 3) := by decide +kernel
theorem dX11_altered_25 : decode cX11_altered 25 = .ok (.iconst (-1), 1) := by decide +kernel
theorem dX11_altered_26 : decode cX11_altered 26 = .ok (.ireturn, 1) := by decide +kernel
theorem dX11_altered_27 : decode cX11_altered 27 = .ok (.aload_n 0, 1) := by decide +kernel
theorem dX11_altered_28 : decode cX11_altered 28 = .ok (.getfield 73, 3) := by decide +kernel
theorem dX11_altered_31 : decode cX11_altered 31 = .ok (.iload_n 1, 1) := by decide +kernel
theorem dX11_altered_32 : decode cX11_altered 32 = .ok (.iaload, 1) := by decide +kernel
theorem dX11_altered_33 : decode cX11_altered 33 = .ok (.istore_n 3, 1) := by decide +kernel
theorem dX11_altered_34 : decode cX11_altered 34 = .ok (.aload_n 0, 1) := by decide +kernel
theorem dX11_altered_35 : decode cX11_altered 35 = .ok (.getfield 73, 3) := by decide +kernel
theorem dX11_altered_38 : decode cX11_altered 38 = .ok (.iload_n 1, 1) := by decide +kernel
theorem dX11_altered_39 : decode cX11_altered 39 = .ok (.iload_n 2, 1) := by decide +kernel
theorem dX11_altered_40 : decode cX11_altered 40 = .ok (.iastore, 1) := by decide +kernel
theorem dX11_altered_41 : decode cX11_altered 41 = .ok (.aload_n 0, 1) := by decide +kernel
theorem dX11_altered_42 : decode cX11_altered 42 = .ok (.invokevirtual 292, 3) := by decide +kernel
theorem dX11_altered_45 : decode cX11_altered 45 = .ok (.aload_n 0, 1) := by decide +kernel
theorem dX11_altered_46 : decode cX11_altered 46 = .ok (.getfield 73, 3) := by decide +kernel
theorem dX11_altered_49 : decode cX11_altered 49 = .ok (.iload_n 1, 1) := by decide +kernel
theorem dX11_altered_50 : decode cX11_altered 50 = .ok (.iload_n 3, 1) := by decide +kernel
theorem dX11_altered_51 : decode cX11_altered 51 = .ok (.iastore, 1) := by decide +kernel
theorem dX11_altered_52 : decode cX11_altered 52 = .ok (.aload_n 0, 1) := by decide +kernel
theorem dX11_altered_53 : decode cX11_altered 53 = .ok (.getfield 261, 3) := by decide +kernel
theorem dX11_altered_56 : decode cX11_altered 56 = .ok (.ireturn, 1) := by decide +kernel
theorem dX11_rest_0 : decode cX11_rest 0 = .ok (.iload_n 1, 1) := by decide +kernel
theorem dX11_rest_1 : decode cX11_rest 1 = .ok (.iconst 0, 1) := by decide +kernel
theorem dX11_rest_2 : decode cX11_rest 2 = .ok (.aload_n 0, 1) := by decide +kernel
theorem dX11_rest_3 : decode cX11_rest 3 = .ok (.getfield 224, 3) := by decide +kernel
theorem dX11_rest_6 : decode cX11_rest 6 = .ok (.iconst 1, 1) := by decide +kernel
theorem dX11_rest_7 : decode cX11_rest 7 = .ok (.isub, 1) := by decide +kernel
theorem dX11_rest_8 : decode cX11_rest 8 = .ok (.invokestatic 98, 3) := by decide +kernel
theorem dX11_rest_11 : decode cX11_rest 11 = .ok (.ifCond .eq 13, 3) := by decide +kernel
theorem dX11_rest_14 : decode cX11_rest 14 = .ok (.aload_n 0, 1) := by decide +kernel
theorem dX11_rest_15 : decode cX11_rest 15 = .ok (.getfield 67, 3) := by decide +kernel
theorem dX11_rest_18 : decode cX11_rest 18 = .ok (.iload_n 1, 1) := by decide +kernel
theorem dX11_rest_19 : decode cX11_rest 19 = .ok (.baload, 1) := by decide +kernel
theorem dX11_rest_20 : decode cX11_rest 20 = .ok (.iload_n 2, 1) := by decide +kernel
theorem dX11_rest_21 : decode cX11_rest 21 = .ok (.if_icmp .ne 5, 3) := by decide +kernel
theorem dX11_rest_24 : decode cX11_rest 24 = .ok (.iconst 0, 1) := by decide +kernel
theorem dX11_rest_25 : decode cX11_rest 25 = .ok (.ireturn, 1) := by decide +kernel
theorem dX11_rest_26 : decode cX11_rest 26 = .ok (.aload_n 0, 1) := by decide +kernel
theorem dX11_rest_27 : decode cX11_rest 27 = .ok (.getfield 67, 3) := by decide +kernel
theorem dX11_rest_30 : decode cX11_rest 30 = .ok (.iload_n 1, 1) := by decide +kernel
theorem dX11_rest_31 : decode cX11_rest 31 = .ok (.iload_n 2, 1) := by decide +kernel
theorem dX11_rest_32 : decode cX11_rest 32 = .ok (.bastore, 1) := by decide +kernel
theorem dX11_rest_33 : decode cX11_rest 33 = .ok (.iconst 1, 1) := by decide +kernel
theorem dX11_rest_34 : decode cX11_rest 34 = .ok (.ireturn, 1) := by decide +kernel
theorem dX11_till_0 : decode cX11_till 0 = .ok (.iload_n 1, 1) := by decide +kernel
theorem dX11_till_1 : decode cX11_till 1 = .ok (.iconst 1, 1) := by decide +kernel
theorem dX11_till_2 : decode cX11_till 2 = .ok (.sipush 600, 3) := by decide +kernel
theorem dX11_till_5 : decode cX11_till 5 = .ok (.invokestatic 98, 3) := by decide +kernel
theorem dX11_till_8 : decode cX11_till 8 = .ok (.ifCond .ne 5, 3) := by decide +kernel
theorem dX11_till_11 : decode cX11_till 11 = .ok (.iconst 0, 1) := by decide +kernel
theorem dX11_till_12 : decode cX11_till 12 = .ok (.ireturn, 1) := by decide +kernel
theorem dX11_till_13 : decode cX11_till 13 = .ok (.aload_n 0, 1) := by decide +kernel
theorem dX11_till_14 : decode cX11_till 14 = .ok (.iload_n 1, 1) := by decide +kernel
theorem dX11_till_15 : decode cX11_till 15 = .ok (.putfield 76, 3) := by decide +kernel
theorem dX11_till_18 : decode cX11_till 18 = .ok (.iconst 1, 1) := by decide +kernel
theorem dX11_till_19 : decode cX11_till 19 = .ok (.ireturn, 1) := by decide +kernel
theorem dX11_litBits_0 : decode cX11_litBits 0 = .ok (.iconst 0, 1) := by decide +kernel
theorem dX11_litBits_1 : decode cX11_litBits 1 = .ok (.istore_n 2, 1) := by decide +kernel
theorem dX11_litBits_2 : decode cX11_litBits 2 = .ok (.iconst 0, 1) := by decide +kernel
theorem dX11_litBits_3 : decode cX11_litBits 3 = .ok (.istore_n 3, 1) := by decide +kernel
theorem dX11_litBits_4 : decode cX11_litBits 4 = .ok (.iload_n 3, 1) := by decide +kernel
theorem dX11_litBits_5 : decode cX11_litBits 5 = .ok (.aload_n 0, 1) := by decide +kernel
theorem dX11_litBits_6 : decode cX11_litBits 6 = .ok (.getfield 221, 3) := by decide +kernel
theorem dX11_litBits_9 : decode cX11_litBits 9 = .ok (.if_icmp .ge 29, 3) := by decide +kernel
theorem dX11_litBits_12 : decode cX11_litBits 12 = .ok (.iload_n 2, 1) := by decide +kernel
theorem dX11_litBits_13 : decode cX11_litBits 13 = .ok (.aload_n 0, 1) := by decide +kernel
theorem dX11_litBits_14 : decode cX11_litBits 14 = .ok (.iload_n 3, 1) := by decide +kernel
theorem dX11_litBits_15 : decode cX11_litBits 15 = .ok (.iconst 1, 1) := by decide +kernel
theorem dX11_litBits_16 : decode cX11_litBits 16 = .ok (.invokevirtual 248, 3) := by decide +kernel
theorem dX11_litBits_19 : decode cX11_litBits 19 = .ok (.iload_n 1, 1) := by decide +kernel
theorem dX11_litBits_20 : decode cX11_litBits 20 = .ok (.if_icmp .gt 9, 3) := by decide +kernel
theorem dX11_litBits_23 : decode cX11_litBits 23 = .ok (.iconst 1, 1) := by decide +kernel
theorem dX11_litBits_24 : decode cX11_litBits 24 = .ok (.iload_n 3, 1) := by decide +kernel
theorem dX11_litBits_25 : decode cX11_litBits 25 = .ok (.ishl, 1) := by decide +kernel
theorem dX11_litBits_26 : decode cX11_litBits 26 = .ok (.goto 4, 3) := by decide +kernel
theorem dX11_litBits_29 : decode cX11_litBits 29 = .ok (.iconst 0, 1) := by decide +kernel
theorem dX11_litBits_30 : decode cX11_litBits 30 = .ok (.ior, 1) := by decide +kernel
theorem dX11_litBits_31 : decode cX11_litBits 31 = .ok (.istore_n 2, 1) := by decide +kernel
theorem dX11_litBits_32 : decode cX11_litBits 32 = .ok (.iinc 3 1, 3) := by decide +kernel
theorem dX11_litBits_35 : decode cX11_litBits 35 = .ok (.goto (-31), 3) := by decide +kernel
theorem dX11_litBits_38 : decode cX11_litBits 38 = .ok (.iload_n 2, 1) := by decide +kernel
theorem dX11_litBits_39 : decode cX11_litBits 39 = .ok (.ireturn, 1) := by decide +kernel
theorem dX11_shown_0 : decode cX11_shown 0 = .ok (.iload_n 1, 1) := by decide +kernel
theorem dX11_shown_1 : decode cX11_shown 1 = .ok (.istore_n 3, 1) := by decide +kernel
theorem dX11_shown_2 : decode cX11_shown 2 = .ok (.iconst 0, 1) := by decide +kernel
theorem dX11_shown_3 : decode cX11_shown 3 = .ok (.istore 4, 2) := by decide +kernel
theorem dX11_shown_5 : decode cX11_shown 5 = .ok (.iload 4, 2) := by decide +kernel
theorem dX11_shown_7 : decode cX11_shown 7 = .ok (.aload_n 0, 1) := by decide +kernel
theorem dX11_shown_8 : decode cX11_shown 8 = .ok (.getfield 224, 3) := by decide +kernel
theorem dX11_shown_11 : decode cX11_shown 11 = .ok (.if_icmp .ge 112, 3) := by decide +kernel
theorem dX11_shown_14 : decode cX11_shown 14 = .ok (.aload_n 0, 1) := by decide +kernel
theorem dX11_shown_15 : decode cX11_shown 15 = .ok (.getfield 67, 3) := by decide +kernel
theorem dX11_shown_18 : decode cX11_shown 18 = .ok (.iload 4, 2) := by decide +kernel
theorem dX11_shown_20 : decode cX11_shown 20 = .ok (.baload, 1) := by decide +kernel
theorem dX11_shown_21 : decode cX11_shown 21 = .ok (.ifCond .ne 96, 3) := by decide +kernel
theorem dX11_shown_24 : decode cX11_shown 24 = .ok (.iload_n 2, 1) := by decide +kernel
theorem dX11_shown_25 : decode cX11_shown 25 = .ok (.iload 4, 2) := by decide +kernel
theorem dX11_shown_27 : decode cX11_shown 27 = .ok (.ishr, 1) := by decide +kernel
theorem dX11_shown_28 : decode cX11_shown 28 = .ok (.iconst 1, 1) := by decide +kernel
theorem dX11_shown_29 : decode cX11_shown 29 = .ok (.iand, 1) := by decide +kernel
theorem dX11_shown_30 : decode cX11_shown 30 = .ok (.iconst 1, 1) := by decide +kernel
theorem dX11_shown_31 : decode cX11_shown 31 = .ok (.if_icmp .ne 6, 3) := by decide +kernel
theorem dX11_shown_34 : decode cX11_shown 34 = .ok (.goto 83, 3) := by decide +kernel
theorem dX11_shown_37 : decode cX11_shown 37 = .ok (.iload_n 1, 1) := by decide +kernel
theorem dX11_shown_38 : decode cX11_shown 38 = .ok (.aload_n 0, 1) := by decide +kernel
theorem dX11_shown_39 : decode cX11_shown 39 = .ok (.getfield 64, 3) := by decide +kernel
theorem dX11_shown_42 : decode cX11_shown 42 = .ok (.iconst 3, 1) := by decide +kernel
theorem dX11_shown_43 : decode cX11_shown 43 = .ok (.iload 4, 2) := by decide +kernel
theorem dX11_shown_45 : decode cX11_shown 45 = .ok (.imul, 1) := by decide +kernel
theorem dX11_shown_46 : decode cX11_shown 46 = .ok (.iconst 1, 1) := by decide +kernel
theorem dX11_shown_47 : decode cX11_shown 47 = .ok (.iadd, 1) := by decide +kernel
theorem dX11_shown_48 : decode cX11_shown 48 = .ok (.iaload, 1) := by decide +kernel
theorem dX11_shown_49 : decode cX11_shown 49 = .ok (.ishr, 1) := by decide +kernel
theorem dX11_shown_50 : decode cX11_shown 50 = .ok (.iconst 1, 1) := by decide +kernel
theorem dX11_shown_51 : decode cX11_shown 51 = .ok (.iand, 1) := by decide +kernel
theorem dX11_shown_52 : decode cX11_shown 52 = .ok (.iconst 1, 1) := by decide +kernel
theorem dX11_shown_53 : decode cX11_shown 53 = .ok (.if_icmp .ne 40, 3) := by decide +kernel
theorem dX11_shown_56 : decode cX11_shown 56 = .ok (.aload_n 0, 1) := by decide +kernel
theorem dX11_shown_57 : decode cX11_shown 57 = .ok (.getfield 64, 3) := by decide +kernel
theorem dX11_shown_60 : decode cX11_shown 60 = .ok (.iconst 3, 1) := by decide +kernel
theorem dX11_shown_61 : decode cX11_shown 61 = .ok (.iload 4, 2) := by decide +kernel
theorem dX11_shown_63 : decode cX11_shown 63 = .ok (.imul, 1) := by decide +kernel
theorem dX11_shown_64 : decode cX11_shown 64 = .ok (.iconst 2, 1) := by decide +kernel
theorem dX11_shown_65 : decode cX11_shown 65 = .ok (.iadd, 1) := by decide +kernel
theorem dX11_shown_66 : decode cX11_shown 66 = .ok (.iaload, 1) := by decide +kernel
theorem dX11_shown_67 : decode cX11_shown 67 = .ok (.iconst (-1), 1) := by decide +kernel
theorem dX11_shown_68 : decode cX11_shown 68 = .ok (.if_icmp .eq 21, 3) := by decide +kernel
theorem dX11_shown_71 : decode cX11_shown 71 = .ok (.iload_n 1, 1) := by decide +kernel
theorem dX11_shown_72 : decode cX11_shown 72 = .ok (.aload_n 0, 1) := by decide +kernel
theorem dX11_shown_73 : decode cX11_shown 73 = .ok (.getfield 64, 3) := by decide +kernel
theorem dX11_shown_76 : decode cX11_shown 76 = .ok (.iconst 3, 1) := by decide +kernel
theorem dX11_shown_77 : decode cX11_shown 77 = .ok (.iload 4, 2) := by decide +kernel
theorem dX11_shown_79 : decode cX11_shown 79 = .ok (.imul, 1) := by decide +kernel
theorem dX11_shown_80 : decode cX11_shown 80 = .ok (.iconst 2, 1) := by decide +kernel
theorem dX11_shown_81 : decode cX11_shown 81 = .ok (.iadd, 1) := by decide +kernel
theorem dX11_shown_82 : decode cX11_shown 82 = .ok (.iaload, 1) := by decide +kernel
theorem dX11_shown_83 : decode cX11_shown 83 = .ok (.ishr, 1) := by decide +kernel
theorem dX11_shown_84 : decode cX11_shown 84 = .ok (.iconst 1, 1) := by decide +kernel
theorem dX11_shown_85 : decode cX11_shown 85 = .ok (.iand, 1) := by decide +kernel
theorem dX11_shown_86 : decode cX11_shown 86 = .ok (.ifCond .ne 7, 3) := by decide +kernel
theorem dX11_shown_89 : decode cX11_shown 89 = .ok (.iconst 1, 1) := by decide +kernel
theorem dX11_shown_90 : decode cX11_shown 90 = .ok (.goto 4, 3) := by decide +kernel
theorem dX11_shown_93 : decode cX11_shown 93 = .ok (.iconst 0, 1) := by decide +kernel
theorem dX11_shown_94 : decode cX11_shown 94 = .ok (.istore 5, 2) := by decide +kernel
theorem dX11_shown_96 : decode cX11_shown 96 = .ok (.iload 5, 2) := by decide +kernel
theorem dX11_shown_98 : decode cX11_shown 98 = .ok (.ifCond .eq 19, 3) := by decide +kernel
theorem dX11_shown_101 : decode cX11_shown 101 = .ok (.iload_n 3, 1) := by decide +kernel
theorem dX11_shown_102 : decode cX11_shown 102 = .ok (.iconst 1, 1) := by decide +kernel
theorem dX11_shown_103 : decode cX11_shown 103 = .ok (.aload_n 0, 1) := by decide +kernel
theorem dX11_shown_104 : decode cX11_shown 104 = .ok (.getfield 64, 3) := by decide +kernel
theorem dX11_shown_107 : decode cX11_shown 107 = .ok (.iconst 3, 1) := by decide +kernel
theorem dX11_shown_108 : decode cX11_shown 108 = .ok (.iload 4, 2) := by decide +kernel
theorem dX11_shown_110 : decode cX11_shown 110 = .ok (.imul, 1) := by decide +kernel
theorem dX11_shown_111 : decode cX11_shown 111 = .ok (.iaload, 1) := by decide +kernel
theorem dX11_shown_112 : decode cX11_shown 112 = .ok (.ishl, 1) := by decide +kernel
theorem dX11_shown_113 : decode cX11_shown 113 = .ok (.iconst (-1), 1) := by decide +kernel
theorem dX11_shown_114 : decode cX11_shown 114 = .ok (.ixor, 1) := by decide +kernel
theorem dX11_shown_115 : decode cX11_shown 115 = .ok (.iand, 1) := by decide +kernel
theorem dX11_shown_116 : decode cX11_shown 116 = .ok (.istore_n 3, 1) := by decide +kernel
theorem dX11_shown_117 : decode cX11_shown 117 = .ok (.iinc 4 1, 3) := by decide +kernel
theorem dX11_shown_120 : decode cX11_shown 120 = .ok (.goto (-115), 3) := by decide +kernel
theorem dX11_shown_123 : decode cX11_shown 123 = .ok (.iload_n 3, 1) := by decide +kernel
theorem dX11_shown_124 : decode cX11_shown 124 = .ok (.ireturn, 1) := by decide +kernel
theorem dX11_board_0 : decode cX11_board 0 = .ok (.aload_n 0, 1) := by decide +kernel
theorem dX11_board_1 : decode cX11_board 1 = .ok (.iload_n 1, 1) := by decide +kernel
theorem dX11_board_2 : decode cX11_board 2 = .ok (.invokevirtual 238, 3) := by decide +kernel
theorem dX11_board_5 : decode cX11_board 5 = .ok (.ifCond .eq 23, 3) := by decide +kernel
theorem dX11_board_8 : decode cX11_board 8 = .ok (.iload_n 2, 1) := by decide +kernel
theorem dX11_board_9 : decode cX11_board 9 = .ok (.iconst 0, 1) := by decide +kernel
theorem dX11_board_10 : decode cX11_board 10 = .ok (.sipush 999, 3) := by decide +kernel
theorem dX11_board_13 : decode cX11_board 13 = .ok (.invokestatic 98, 3) := by decide +kernel
theorem dX11_board_16 : decode cX11_board 16 = .ok (.ifCond .eq 12, 3) := by decide +kernel
theorem dX11_board_19 : decode cX11_board 19 = .ok (.iload_n 3, 1) := by decide +kernel
theorem dX11_board_20 : decode cX11_board 20 = .ok (.iconst 0, 1) := by decide +kernel
theorem dX11_board_21 : decode cX11_board 21 = .ok (.iconst 1, 1) := by decide +kernel
theorem dX11_board_22 : decode cX11_board 22 = .ok (.invokestatic 98, 3) := by decide +kernel
theorem dX11_board_25 : decode cX11_board 25 = .ok (.ifCond .ne 5, 3) := by decide +kernel
theorem dX11_board_28 : decode cX11_board 28 = .ok (.iconst (-1), 1) := by decide +kernel
theorem dX11_board_29 : decode cX11_board 29 = .ok (.ireturn, 1) := by decide +kernel
theorem dX11_board_30 : decode cX11_board 30 = .ok (.aload_n 0, 1) := by decide +kernel
theorem dX11_board_31 : decode cX11_board 31 = .ok (.iload_n 1, 1) := by decide +kernel
theorem dX11_board_32 : decode cX11_board 32 = .ok (.invokevirtual 244, 3) := by decide +kernel
theorem dX11_board_35 : decode cX11_board 35 = .ok (.aload_n 0, 1) := by decide +kernel
theorem dX11_board_36 : decode cX11_board 36 = .ok (.iload_n 2, 1) := by decide +kernel
theorem dX11_board_37 : decode cX11_board 37 = .ok (.invokevirtual 295, 3) := by decide +kernel
theorem dX11_board_40 : decode cX11_board 40 = .ok (.istore 4, 2) := by decide +kernel
theorem dX11_board_42 : decode cX11_board 42 = .ok (.iload_n 3, 1) := by decide +kernel
theorem dX11_board_43 : decode cX11_board 43 = .ok (.ifCond .ne 8, 3) := by decide +kernel
theorem dX11_board_46 : decode cX11_board 46 = .ok (.iload 4, 2) := by decide +kernel
theorem dX11_board_48 : decode cX11_board 48 = .ok (.goto 10, 3) := by decide +kernel
theorem dX11_board_51 : decode cX11_board 51 = .ok (.aload_n 0, 1) := by decide +kernel
theorem dX11_board_52 : decode cX11_board 52 = .ok (.iload 4, 2) := by decide +kernel
theorem dX11_board_54 : decode cX11_board 54 = .ok (.iconst 0, 1) := by decide +kernel
theorem dX11_board_55 : decode cX11_board 55 = .ok (.invokevirtual 298, 3) := by decide +kernel
theorem dX11_board_58 : decode cX11_board 58 = .ok (.ireturn, 1) := by decide +kernel
theorem dX11_findSigns_0 : decode cX11_findSigns 0 = .ok (.iconst 0, 1) := by decide +kernel
theorem dX11_findSigns_1 : decode cX11_findSigns 1 = .ok (.istore_n 1, 1) := by decide +kernel
theorem dX11_findSigns_2 : decode cX11_findSigns 2 = .ok (.iload_n 1, 1) := by decide +kernel
theorem dX11_findSigns_3 : decode cX11_findSigns 3 = .ok (.aload_n 0, 1) := by decide +kernel
theorem dX11_findSigns_4 : decode cX11_findSigns 4 = .ok (.getfield 215, 3) := by decide +kernel
theorem dX11_findSigns_7 : decode cX11_findSigns 7 = .ok (.if_icmp .ge 30, 3) := by decide +kernel
theorem dX11_findSigns_10 : decode cX11_findSigns 10 = .ok (.aload_n 0, 1) := by decide +kernel
theorem dX11_findSigns_11 : decode cX11_findSigns 11 = .ok (.iconst 1, 1) := by decide +kernel
theorem dX11_findSigns_12 : decode cX11_findSigns 12 = .ok (.iload_n 1, 1) := by decide +kernel
theorem dX11_findSigns_13 : decode cX11_findSigns 13 = .ok (.ishl, 1) := by decide +kernel
theorem dX11_findSigns_14 : decode cX11_findSigns 14 = .ok (.invokevirtual 244, 3) := by decide +kernel
theorem dX11_findSigns_17 : decode cX11_findSigns 17 = .ok (.aload_n 0, 1) := by decide +kernel
theorem dX11_findSigns_18 : decode cX11_findSigns 18 = .ok (.getfield 89, 3) := by decide +kernel
theorem dX11_findSigns_21 : decode cX11_findSigns 21 = .ok (.iload_n 1, 1) := by decide +kernel
theorem dX11_findSigns_22 : decode cX11_findSigns 22 = .ok (.aload_n 0, 1) := by decide +kernel
theorem dX11_findSigns_23 : decode cX11_findSigns 23 = .ok (.aload_n 0, 1) := by decide +kernel
theorem dX11_findSigns_24 : decode cX11_findSigns 24 = .ok (.getfield 76, 3) := by decide +kernel
theorem dX11_findSigns_27 : decode cX11_findSigns 27 = .ok (.invokevirtual 295, 3) := by decide +kernel
theorem dX11_findSigns_30 : decode cX11_findSigns 30 = .ok (.iastore, 1) := by decide +kernel
theorem dX11_findSigns_31 : decode cX11_findSigns 31 = .ok (.iinc 1 1, 3) := by decide +kernel
theorem dX11_findSigns_34 : decode cX11_findSigns 34 = .ok (.goto (-32), 3) := by decide +kernel
theorem dX11_findSigns_37 : decode cX11_findSigns 37 = .ok (.return_, 1) := by decide +kernel
theorem dX11_lost_0 : decode cX11_lost 0 = .ok (.iconst 0, 1) := by decide +kernel
theorem dX11_lost_1 : decode cX11_lost 1 = .ok (.istore_n 2, 1) := by decide +kernel
theorem dX11_lost_2 : decode cX11_lost 2 = .ok (.iconst 0, 1) := by decide +kernel
theorem dX11_lost_3 : decode cX11_lost 3 = .ok (.istore_n 3, 1) := by decide +kernel
theorem dX11_lost_4 : decode cX11_lost 4 = .ok (.iload_n 3, 1) := by decide +kernel
theorem dX11_lost_5 : decode cX11_lost 5 = .ok (.aload_n 0, 1) := by decide +kernel
theorem dX11_lost_6 : decode cX11_lost 6 = .ok (.getfield 215, 3) := by decide +kernel
theorem dX11_lost_9 : decode cX11_lost 9 = .ok (.if_icmp .ge 40, 3) := by decide +kernel
theorem dX11_lost_12 : decode cX11_lost 12 = .ok (.iload_n 2, 1) := by decide +kernel
theorem dX11_lost_13 : decode cX11_lost 13 = .ok (.aload_n 0, 1) := by decide +kernel
theorem dX11_lost_14 : decode cX11_lost 14 = .ok (.getfield 89, 3) := by decide +kernel
theorem dX11_lost_17 : decode cX11_lost 17 = .ok (.iload_n 3, 1) := by decide +kernel
theorem dX11_lost_18 : decode cX11_lost 18 = .ok (.iaload, 1) := by decide +kernel
theorem dX11_lost_19 : decode cX11_lost 19 = .ok (.ifCond .eq 21, 3) := by decide +kernel
theorem dX11_lost_22 : decode cX11_lost 22 = .ok (.aload_n 0, 1) := by decide +kernel
theorem dX11_lost_23 : decode cX11_lost 23 = .ok (.aload_n 0, 1) := by decide +kernel
theorem dX11_lost_24 : decode cX11_lost 24 = .ok (.getfield 89, 3) := by decide +kernel
theorem dX11_lost_27 : decode cX11_lost 27 = .ok (.iload_n 3, 1) := by decide +kernel
theorem dX11_lost_28 : decode cX11_lost 28 = .ok (.iaload, 1) := by decide +kernel
theorem dX11_lost_29 : decode cX11_lost 29 = .ok (.iload_n 1, 1) := by decide +kernel
theorem dX11_lost_30 : decode cX11_lost 30 = .ok (.invokevirtual 298, 3) := by decide +kernel
theorem dX11_lost_33 : decode cX11_lost 33 = .ok (.ifCond .ne 7, 3) := by decide +kernel
theorem dX11_lost_36 : decode cX11_lost 36 = .ok (.iconst 1, 1) := by decide +kernel
theorem dX11_lost_37 : decode cX11_lost 37 = .ok (.goto 4, 3) := by decide +kernel
theorem dX11_lost_40 : decode cX11_lost 40 = .ok (.iconst 0, 1) := by decide +kernel
theorem dX11_lost_41 : decode cX11_lost 41 = .ok (.iadd, 1) := by decide +kernel
theorem dX11_lost_42 : decode cX11_lost 42 = .ok (.istore_n 2, 1) := by decide +kernel
theorem dX11_lost_43 : decode cX11_lost 43 = .ok (.iinc 3 1, 3) := by decide +kernel
theorem dX11_lost_46 : decode cX11_lost 46 = .ok (.goto (-42), 3) := by decide +kernel
theorem dX11_lost_49 : decode cX11_lost 49 = .ok (.iload_n 2, 1) := by decide +kernel
theorem dX11_lost_50 : decode cX11_lost 50 = .ok (.ireturn, 1) := by decide +kernel
theorem dX11_alike_0 : decode cX11_alike 0 = .ok (.iconst 0, 1) := by decide +kernel
theorem dX11_alike_1 : decode cX11_alike 1 = .ok (.istore_n 2, 1) := by decide +kernel
theorem dX11_alike_2 : decode cX11_alike 2 = .ok (.iconst 0, 1) := by decide +kernel
theorem dX11_alike_3 : decode cX11_alike 3 = .ok (.istore_n 3, 1) := by decide +kernel
theorem dX11_alike_4 : decode cX11_alike 4 = .ok (.iload_n 3, 1) := by decide +kernel
theorem dX11_alike_5 : decode cX11_alike 5 = .ok (.aload_n 0, 1) := by decide +kernel
theorem dX11_alike_6 : decode cX11_alike 6 = .ok (.getfield 215, 3) := by decide +kernel
theorem dX11_alike_9 : decode cX11_alike 9 = .ok (.if_icmp .ge 74, 3) := by decide +kernel
theorem dX11_alike_12 : decode cX11_alike 12 = .ok (.iconst 0, 1) := by decide +kernel
theorem dX11_alike_13 : decode cX11_alike 13 = .ok (.istore 4, 2) := by decide +kernel
theorem dX11_alike_15 : decode cX11_alike 15 = .ok (.iload 4, 2) := by decide +kernel
theorem dX11_alike_17 : decode cX11_alike 17 = .ok (.iload_n 3, 1) := by decide +kernel
theorem dX11_alike_18 : decode cX11_alike 18 = .ok (.if_icmp .ge 59, 3) := by decide +kernel
theorem dX11_alike_21 : decode cX11_alike 21 = .ok (.iload_n 2, 1) := by decide +kernel
theorem dX11_alike_22 : decode cX11_alike 22 = .ok (.aload_n 0, 1) := by decide +kernel
theorem dX11_alike_23 : decode cX11_alike 23 = .ok (.getfield 89, 3) := by decide +kernel
theorem dX11_alike_26 : decode cX11_alike 26 = .ok (.iload_n 3, 1) := by decide +kernel
theorem dX11_alike_27 : decode cX11_alike 27 = .ok (.iaload, 1) := by decide +kernel
theorem dX11_alike_28 : decode cX11_alike 28 = .ok (.aload_n 0, 1) := by decide +kernel
theorem dX11_alike_29 : decode cX11_alike 29 = .ok (.getfield 89, 3) := by decide +kernel
theorem dX11_alike_32 : decode cX11_alike 32 = .ok (.iload 4, 2) := by decide +kernel
theorem dX11_alike_34 : decode cX11_alike 34 = .ok (.iaload, 1) := by decide +kernel
theorem dX11_alike_35 : decode cX11_alike 35 = .ok (.if_icmp .eq 33, 3) := by decide +kernel
theorem dX11_alike_38 : decode cX11_alike 38 = .ok (.aload_n 0, 1) := by decide +kernel
theorem dX11_alike_39 : decode cX11_alike 39 = .ok (.aload_n 0, 1) := by decide +kernel
theorem dX11_alike_40 : decode cX11_alike 40 = .ok (.getfield 89, 3) := by decide +kernel
theorem dX11_alike_43 : decode cX11_alike 43 = .ok (.iload_n 3, 1) := by decide +kernel
theorem dX11_alike_44 : decode cX11_alike 44 = .ok (.iaload, 1) := by decide +kernel
theorem dX11_alike_45 : decode cX11_alike 45 = .ok (.iload_n 1, 1) := by decide +kernel
theorem dX11_alike_46 : decode cX11_alike 46 = .ok (.invokevirtual 298, 3) := by decide +kernel
theorem dX11_alike_49 : decode cX11_alike 49 = .ok (.aload_n 0, 1) := by decide +kernel
theorem dX11_alike_50 : decode cX11_alike 50 = .ok (.aload_n 0, 1) := by decide +kernel
theorem dX11_alike_51 : decode cX11_alike 51 = .ok (.getfield 89, 3) := by decide +kernel
theorem dX11_alike_54 : decode cX11_alike 54 = .ok (.iload 4, 2) := by decide +kernel
theorem dX11_alike_56 : decode cX11_alike 56 = .ok (.iaload, 1) := by decide +kernel
theorem dX11_alike_57 : decode cX11_alike 57 = .ok (.iload_n 1, 1) := by decide +kernel
theorem dX11_alike_58 : decode cX11_alike 58 = .ok (.invokevirtual 298, 3) := by decide +kernel
theorem dX11_alike_61 : decode cX11_alike 61 = .ok (.if_icmp .ne 7, 3) := by decide +kernel
theorem dX11_alike_64 : decode cX11_alike 64 = .ok (.iconst 1, 1) := by decide +kernel
theorem dX11_alike_65 : decode cX11_alike 65 = .ok (.goto 4, 3) := by decide +kernel
theorem dX11_alike_68 : decode cX11_alike 68 = .ok (.iconst 0, 1) := by decide +kernel
theorem dX11_alike_69 : decode cX11_alike 69 = .ok (.iadd, 1) := by decide +kernel
theorem dX11_alike_70 : decode cX11_alike 70 = .ok (.istore_n 2, 1) := by decide +kernel
theorem dX11_alike_71 : decode cX11_alike 71 = .ok (.iinc 4 1, 3) := by decide +kernel
theorem dX11_alike_74 : decode cX11_alike 74 = .ok (.goto (-59), 3) := by decide +kernel
theorem dX11_alike_77 : decode cX11_alike 77 = .ok (.iinc 3 1, 3) := by decide +kernel
theorem dX11_alike_80 : decode cX11_alike 80 = .ok (.goto (-76), 3) := by decide +kernel
theorem dX11_alike_83 : decode cX11_alike 83 = .ok (.iload_n 2, 1) := by decide +kernel
theorem dX11_alike_84 : decode cX11_alike 84 = .ok (.ireturn, 1) := by decide +kernel
theorem dX11_harm_0 : decode cX11_harm 0 = .ok (.aload_n 0, 1) := by decide +kernel
theorem dX11_harm_1 : decode cX11_harm 1 = .ok (.getfield 215, 3) := by decide +kernel
theorem dX11_harm_4 : decode cX11_harm 4 = .ok (.ifCond .eq 12, 3) := by decide +kernel
theorem dX11_harm_7 : decode cX11_harm 7 = .ok (.iload_n 1, 1) := by decide +kernel
theorem dX11_harm_8 : decode cX11_harm 8 = .ok (.iconst 0, 1) := by decide +kernel
theorem dX11_harm_9 : decode cX11_harm 9 = .ok (.iconst 2, 1) := by decide +kernel
theorem dX11_harm_10 : decode cX11_harm 10 = .ok (.invokestatic 98, 3) := by decide +kernel
theorem dX11_harm_13 : decode cX11_harm 13 = .ok (.ifCond .ne 5, 3) := by decide +kernel
theorem dX11_harm_16 : decode cX11_harm 16 = .ok (.iconst (-1), 1) := by decide +kernel
theorem dX11_harm_17 : decode cX11_harm 17 = .ok (.ireturn, 1) := by decide +kernel
theorem dX11_harm_18 : decode cX11_harm 18 = .ok (.aload_n 0, 1) := by decide +kernel
theorem dX11_harm_19 : decode cX11_harm 19 = .ok (.invokevirtual 301, 3) := by decide +kernel
theorem dX11_harm_22 : decode cX11_harm 22 = .ok (.iload_n 1, 1) := by decide +kernel
theorem dX11_harm_23 : decode cX11_harm 23 = .ok (.iconst 2, 1) := by decide +kernel
theorem dX11_harm_24 : decode cX11_harm 24 = .ok (.if_icmp .ge 21, 3) := by decide +kernel
theorem dX11_harm_27 : decode cX11_harm 27 = .ok (.iload_n 1, 1) := by decide +kernel
theorem dX11_harm_28 : decode cX11_harm 28 = .ok (.ifCond .ne 11, 3) := by decide +kernel
theorem dX11_harm_31 : decode cX11_harm 31 = .ok (.aload_n 0, 1) := by decide +kernel
theorem dX11_harm_32 : decode cX11_harm 32 = .ok (.iconst 0, 1) := by decide +kernel
theorem dX11_harm_33 : decode cX11_harm 33 = .ok (.invokevirtual 304, 3) := by decide +kernel
theorem dX11_harm_36 : decode cX11_harm 36 = .ok (.goto 8, 3) := by decide +kernel
theorem dX11_harm_39 : decode cX11_harm 39 = .ok (.aload_n 0, 1) := by decide +kernel
theorem dX11_harm_40 : decode cX11_harm 40 = .ok (.iconst 0, 1) := by decide +kernel
theorem dX11_harm_41 : decode cX11_harm 41 = .ok (.invokevirtual 307, 3) := by decide +kernel
theorem dX11_harm_44 : decode cX11_harm 44 = .ok (.ireturn, 1) := by decide +kernel
theorem dX11_harm_45 : decode cX11_harm 45 = .ok (.iconst 0, 1) := by decide +kernel
theorem dX11_harm_46 : decode cX11_harm 46 = .ok (.istore_n 2, 1) := by decide +kernel
theorem dX11_harm_47 : decode cX11_harm 47 = .ok (.iconst 0, 1) := by decide +kernel
theorem dX11_harm_48 : decode cX11_harm 48 = .ok (.istore_n 3, 1) := by decide +kernel
theorem dX11_harm_49 : decode cX11_harm 49 = .ok (.iload_n 3, 1) := by decide +kernel
theorem dX11_harm_50 : decode cX11_harm 50 = .ok (.aload_n 0, 1) := by decide +kernel
theorem dX11_harm_51 : decode cX11_harm 51 = .ok (.getfield 224, 3) := by decide +kernel
theorem dX11_harm_54 : decode cX11_harm 54 = .ok (.if_icmp .ge 28, 3) := by decide +kernel
theorem dX11_harm_57 : decode cX11_harm 57 = .ok (.iload_n 2, 1) := by decide +kernel
theorem dX11_harm_58 : decode cX11_harm 58 = .ok (.aload_n 0, 1) := by decide +kernel
theorem dX11_harm_59 : decode cX11_harm 59 = .ok (.getfield 67, 3) := by decide +kernel
theorem dX11_harm_62 : decode cX11_harm 62 = .ok (.iload_n 3, 1) := by decide +kernel
theorem dX11_harm_63 : decode cX11_harm 63 = .ok (.baload, 1) := by decide +kernel
theorem dX11_harm_64 : decode cX11_harm 64 = .ok (.ifCond .eq 9, 3) := by decide +kernel
theorem dX11_harm_67 : decode cX11_harm 67 = .ok (.iconst 1, 1) := by decide +kernel
theorem dX11_harm_68 : decode cX11_harm 68 = .ok (.iload_n 3, 1) := by decide +kernel
theorem dX11_harm_69 : decode cX11_harm 69 = .ok (.ishl, 1) := by decide +kernel
theorem dX11_harm_70 : decode cX11_harm 70 = .ok (.goto 4, 3) := by decide +kernel
theorem dX11_harm_73 : decode cX11_harm 73 = .ok (.iconst 0, 1) := by decide +kernel
theorem dX11_harm_74 : decode cX11_harm 74 = .ok (.ior, 1) := by decide +kernel
theorem dX11_harm_75 : decode cX11_harm 75 = .ok (.istore_n 2, 1) := by decide +kernel
theorem dX11_harm_76 : decode cX11_harm 76 = .ok (.iinc 3 1, 3) := by decide +kernel
theorem dX11_harm_79 : decode cX11_harm 79 = .ok (.goto (-30), 3) := by decide +kernel
theorem dX11_harm_82 : decode cX11_harm 82 = .ok (.iconst (-1), 1) := by decide +kernel
theorem dX11_harm_83 : decode cX11_harm 83 = .ok (.istore_n 3, 1) := by decide +kernel
theorem dX11_harm_84 : decode cX11_harm 84 = .ok (.iconst 0, 1) := by decide +kernel
theorem dX11_harm_85 : decode cX11_harm 85 = .ok (.istore 4, 2) := by decide +kernel
theorem dX11_harm_87 : decode cX11_harm 87 = .ok (.iload 4, 2) := by decide +kernel
theorem dX11_harm_89 : decode cX11_harm 89 = .ok (.iconst 1, 1) := by decide +kernel
theorem dX11_harm_90 : decode cX11_harm 90 = .ok (.aload_n 0, 1) := by decide +kernel
theorem dX11_harm_91 : decode cX11_harm 91 = .ok (.getfield 224, 3) := by decide +kernel
theorem dX11_harm_94 : decode cX11_harm 94 = .ok (.ishl, 1) := by decide +kernel
theorem dX11_harm_95 : decode cX11_harm 95 = .ok (.if_icmp .ge 57, 3) := by decide +kernel
theorem dX11_harm_98 : decode cX11_harm 98 = .ok (.iload 4, 2) := by decide +kernel
theorem dX11_harm_100 : decode cX11_harm 100 = .ok (.iload_n 2, 1) := by decide +kernel
theorem dX11_harm_101 : decode cX11_harm 101 = .ok (.iand, 1) := by decide +kernel
theorem dX11_harm_102 : decode cX11_harm 102 = .ok (.ifCond .ne 44, 3) := by decide +kernel
theorem dX11_harm_105 : decode cX11_harm 105 = .ok (.iload_n 3, 1) := by decide +kernel
theorem dX11_harm_106 : decode cX11_harm 106 = .ok (.iconst (-1), 1) := by decide +kernel
theorem dX11_harm_107 : decode cX11_harm 107 = .ok (.if_icmp .eq 18, 3) := by decide +kernel
theorem dX11_harm_110 : decode cX11_harm 110 = .ok (.iload 4, 2) := by decide +kernel
theorem dX11_harm_112 : decode cX11_harm 112 = .ok (.invokestatic 264, 3) := by decide +kernel
theorem dX11_harm_115 : decode cX11_harm 115 = .ok (.iload_n 3, 1) := by decide +kernel
theorem dX11_harm_116 : decode cX11_harm 116 = .ok (.invokestatic 264, 3) := by decide +kernel
theorem dX11_harm_119 : decode cX11_harm 119 = .ok (.if_icmp .lt 6, 3) := by decide +kernel
theorem dX11_harm_122 : decode cX11_harm 122 = .ok (.goto 24, 3) := by decide +kernel
theorem dX11_harm_125 : decode cX11_harm 125 = .ok (.aload_n 0, 1) := by decide +kernel
theorem dX11_harm_126 : decode cX11_harm 126 = .ok (.iload 4, 2) := by decide +kernel
theorem dX11_harm_128 : decode cX11_harm 128 = .ok (.invokevirtual 304, 3) := by decide +kernel
theorem dX11_harm_131 : decode cX11_harm 131 = .ok (.ifCond .ne 15, 3) := by decide +kernel
theorem dX11_harm_134 : decode cX11_harm 134 = .ok (.aload_n 0, 1) := by decide +kernel
theorem dX11_harm_135 : decode cX11_harm 135 = .ok (.iload 4, 2) := by decide +kernel
theorem dX11_harm_137 : decode cX11_harm 137 = .ok (.invokevirtual 307, 3) := by decide +kernel
theorem dX11_harm_140 : decode cX11_harm 140 = .ok (.ifCond .ne 6, 3) := by decide +kernel
theorem dX11_harm_143 : decode cX11_harm 143 = .ok (.iload 4, 2) := by decide +kernel
theorem dX11_harm_145 : decode cX11_harm 145 = .ok (.istore_n 3, 1) := by decide +kernel
theorem dX11_harm_146 : decode cX11_harm 146 = .ok (.iinc 4 1, 3) := by decide +kernel
theorem dX11_harm_149 : decode cX11_harm 149 = .ok (.goto (-62), 3) := by decide +kernel
theorem dX11_harm_152 : decode cX11_harm 152 = .ok (.iload_n 3, 1) := by decide +kernel
theorem dX11_harm_153 : decode cX11_harm 153 = .ok (.ireturn, 1) := by decide +kernel
theorem dX11_windowAt_0 : decode cX11_windowAt 0 = .ok (.iconst 0, 1) := by decide +kernel
theorem dX11_windowAt_1 : decode cX11_windowAt 1 = .ok (.istore_n 2, 1) := by decide +kernel
theorem dX11_windowAt_2 : decode cX11_windowAt 2 = .ok (.iload_n 2, 1) := by decide +kernel
theorem dX11_windowAt_3 : decode cX11_windowAt 3 = .ok (.aload_n 0, 1) := by decide +kernel
theorem dX11_windowAt_4 : decode cX11_windowAt 4 = .ok (.getfield 221, 3) := by decide +kernel
theorem dX11_windowAt_7 : decode cX11_windowAt 7 = .ok (.if_icmp .ge 19, 3) := by decide +kernel
theorem dX11_windowAt_10 : decode cX11_windowAt 10 = .ok (.aload_n 0, 1) := by decide +kernel
theorem dX11_windowAt_11 : decode cX11_windowAt 11 = .ok (.getfield 61, 3) := by decide +kernel
theorem dX11_windowAt_14 : decode cX11_windowAt 14 = .ok (.iload_n 2, 1) := by decide +kernel
theorem dX11_windowAt_15 : decode cX11_windowAt 15 = .ok (.iaload, 1) := by decide +kernel
theorem dX11_windowAt_16 : decode cX11_windowAt 16 = .ok (.iload_n 1, 1) := by decide +kernel
theorem dX11_windowAt_17 : decode cX11_windowAt 17 = .ok (.if_icmp .eq 9, 3) := by decide +kernel
theorem dX11_windowAt_20 : decode cX11_windowAt 20 = .ok (.iinc 2 1, 3) := by decide +kernel
theorem dX11_windowAt_23 : decode cX11_windowAt 23 = .ok (.goto (-21), 3) := by decide +kernel
theorem dX11_windowAt_26 : decode cX11_windowAt 26 = .ok (.iload_n 2, 1) := by decide +kernel
theorem dX11_windowAt_27 : decode cX11_windowAt 27 = .ok (.ireturn, 1) := by decide +kernel
theorem dX11_change_0 : decode cX11_change 0 = .ok (.aload_n 0, 1) := by decide +kernel
theorem dX11_change_1 : decode cX11_change 1 = .ok (.iload_n 1, 1) := by decide +kernel
theorem dX11_change_2 : decode cX11_change 2 = .ok (.invokevirtual 230, 3) := by decide +kernel
theorem dX11_change_5 : decode cX11_change 5 = .ok (.ifCond .eq 16, 3) := by decide +kernel
theorem dX11_change_8 : decode cX11_change 8 = .ok (.aload_n 0, 1) := by decide +kernel
theorem dX11_change_9 : decode cX11_change 9 = .ok (.iload_n 2, 1) := by decide +kernel
theorem dX11_change_10 : decode cX11_change 10 = .ok (.invokevirtual 230, 3) := by decide +kernel
theorem dX11_change_13 : decode cX11_change 13 = .ok (.ifCond .eq 8, 3) := by decide +kernel
theorem dX11_change_16 : decode cX11_change 16 = .ok (.iload_n 1, 1) := by decide +kernel
theorem dX11_change_17 : decode cX11_change 17 = .ok (.iload_n 2, 1) := by decide +kernel
theorem dX11_change_18 : decode cX11_change 18 = .ok (.if_icmp .ne 5, 3) := by decide +kernel
theorem dX11_change_21 : decode cX11_change 21 = .ok (.iconst 0, 1) := by decide +kernel
theorem dX11_change_22 : decode cX11_change 22 = .ok (.ireturn, 1) := by decide +kernel
theorem dX11_change_23 : decode cX11_change 23 = .ok (.aload_n 0, 1) := by decide +kernel
theorem dX11_change_24 : decode cX11_change 24 = .ok (.iload_n 1, 1) := by decide +kernel
theorem dX11_change_25 : decode cX11_change 25 = .ok (.iload_n 2, 1) := by decide +kernel
theorem dX11_change_26 : decode cX11_change 26 = .ok (.invokevirtual 310, 3) := by decide +kernel
theorem dX11_change_29 : decode cX11_change 29 = .ok (.iconst 1, 1) := by decide +kernel
theorem dX11_change_30 : decode cX11_change 30 = .ok (.ireturn, 1) := by decide +kernel
theorem dX11_swaps_0 : decode cX11_swaps 0 = .ok (.aload_n 0, 1) := by decide +kernel
theorem dX11_swaps_1 : decode cX11_swaps 1 = .ok (.iload_n 1, 1) := by decide +kernel
theorem dX11_swaps_2 : decode cX11_swaps 2 = .ok (.invokevirtual 314, 3) := by decide +kernel
theorem dX11_swaps_5 : decode cX11_swaps 5 = .ok (.istore_n 3, 1) := by decide +kernel
theorem dX11_swaps_6 : decode cX11_swaps 6 = .ok (.aload_n 0, 1) := by decide +kernel
theorem dX11_swaps_7 : decode cX11_swaps 7 = .ok (.iload_n 2, 1) := by decide +kernel
theorem dX11_swaps_8 : decode cX11_swaps 8 = .ok (.invokevirtual 314, 3) := by decide +kernel
theorem dX11_swaps_11 : decode cX11_swaps 11 = .ok (.istore 4, 2) := by decide +kernel
theorem dX11_swaps_13 : decode cX11_swaps 13 = .ok (.aload_n 0, 1) := by decide +kernel
theorem dX11_swaps_14 : decode cX11_swaps 14 = .ok (.getfield 61, 3) := by decide +kernel
theorem dX11_swaps_17 : decode cX11_swaps 17 = .ok (.iload_n 3, 1) := by decide +kernel
theorem dX11_swaps_18 : decode cX11_swaps 18 = .ok (.iload_n 2, 1) := by decide +kernel
theorem dX11_swaps_19 : decode cX11_swaps 19 = .ok (.iastore, 1) := by decide +kernel
theorem dX11_swaps_20 : decode cX11_swaps 20 = .ok (.aload_n 0, 1) := by decide +kernel
theorem dX11_swaps_21 : decode cX11_swaps 21 = .ok (.getfield 61, 3) := by decide +kernel
theorem dX11_swaps_24 : decode cX11_swaps 24 = .ok (.iload 4, 2) := by decide +kernel
theorem dX11_swaps_26 : decode cX11_swaps 26 = .ok (.iload_n 1, 1) := by decide +kernel
theorem dX11_swaps_27 : decode cX11_swaps 27 = .ok (.iastore, 1) := by decide +kernel
theorem dX11_swaps_28 : decode cX11_swaps 28 = .ok (.return_, 1) := by decide +kernel
theorem dX11_findShown_0 : decode cX11_findShown 0 = .ok (.aload_n 0, 1) := by decide +kernel
theorem dX11_findShown_1 : decode cX11_findShown 1 = .ok (.invokevirtual 301, 3) := by decide +kernel
theorem dX11_findShown_4 : decode cX11_findShown 4 = .ok (.iconst 0, 1) := by decide +kernel
theorem dX11_findShown_5 : decode cX11_findShown 5 = .ok (.istore_n 1, 1) := by decide +kernel
theorem dX11_findShown_6 : decode cX11_findShown 6 = .ok (.iload_n 1, 1) := by decide +kernel
theorem dX11_findShown_7 : decode cX11_findShown 7 = .ok (.aload_n 0, 1) := by decide +kernel
theorem dX11_findShown_8 : decode cX11_findShown 8 = .ok (.getfield 215, 3) := by decide +kernel
theorem dX11_findShown_11 : decode cX11_findShown 11 = .ok (.if_icmp .ge 54, 3) := by decide +kernel
theorem dX11_findShown_14 : decode cX11_findShown 14 = .ok (.aload_n 0, 1) := by decide +kernel
theorem dX11_findShown_15 : decode cX11_findShown 15 = .ok (.iconst 1, 1) := by decide +kernel
theorem dX11_findShown_16 : decode cX11_findShown 16 = .ok (.iload_n 1, 1) := by decide +kernel
theorem dX11_findShown_17 : decode cX11_findShown 17 = .ok (.ishl, 1) := by decide +kernel
theorem dX11_findShown_18 : decode cX11_findShown 18 = .ok (.invokevirtual 244, 3) := by decide +kernel
theorem dX11_findShown_21 : decode cX11_findShown 21 = .ok (.iconst 0, 1) := by decide +kernel
theorem dX11_findShown_22 : decode cX11_findShown 22 = .ok (.istore_n 2, 1) := by decide +kernel
theorem dX11_findShown_23 : decode cX11_findShown 23 = .ok (.iload_n 2, 1) := by decide +kernel
theorem dX11_findShown_24 : decode cX11_findShown 24 = .ok (.aload_n 0, 1) := by decide +kernel
theorem dX11_findShown_25 : decode cX11_findShown 25 = .ok (.getfield 76, 3) := by decide +kernel
theorem dX11_findShown_28 : decode cX11_findShown 28 = .ok (.if_icmp .gt 31, 3) := by decide +kernel
theorem dX11_findShown_31 : decode cX11_findShown 31 = .ok (.aload_n 0, 1) := by decide +kernel
theorem dX11_findShown_32 : decode cX11_findShown 32 = .ok (.getfield 92, 3) := by decide +kernel
theorem dX11_findShown_35 : decode cX11_findShown 35 = .ok (.sipush 601, 3) := by decide +kernel
theorem dX11_findShown_38 : decode cX11_findShown 38 = .ok (.iload_n 1, 1) := by decide +kernel
theorem dX11_findShown_39 : decode cX11_findShown 39 = .ok (.imul, 1) := by decide +kernel
theorem dX11_findShown_40 : decode cX11_findShown 40 = .ok (.iload_n 2, 1) := by decide +kernel
theorem dX11_findShown_41 : decode cX11_findShown 41 = .ok (.iadd, 1) := by decide +kernel
theorem dX11_findShown_42 : decode cX11_findShown 42 = .ok (.aload_n 0, 1) := by decide +kernel
theorem dX11_findShown_43 : decode cX11_findShown 43 = .ok (.aload_n 0, 1) := by decide +kernel
theorem dX11_findShown_44 : decode cX11_findShown 44 = .ok (.iload_n 2, 1) := by decide +kernel
theorem dX11_findShown_45 : decode cX11_findShown 45 = .ok (.invokevirtual 295, 3) := by decide +kernel
theorem dX11_findShown_48 : decode cX11_findShown 48 = .ok (.iconst 0, 1) := by decide +kernel
theorem dX11_findShown_49 : decode cX11_findShown 49 = .ok (.invokevirtual 298, 3) := by decide +kernel
theorem dX11_findShown_52 : decode cX11_findShown 52 = .ok (.iastore, 1) := by decide +kernel
theorem dX11_findShown_53 : decode cX11_findShown 53 = .ok (.iinc 2 1, 3) := by decide +kernel
theorem dX11_findShown_56 : decode cX11_findShown 56 = .ok (.goto (-33), 3) := by decide +kernel
theorem dX11_findShown_59 : decode cX11_findShown 59 = .ok (.iinc 1 1, 3) := by decide +kernel
theorem dX11_findShown_62 : decode cX11_findShown 62 = .ok (.goto (-56), 3) := by decide +kernel
theorem dX11_findShown_65 : decode cX11_findShown 65 = .ok (.return_, 1) := by decide +kernel
theorem dX11_mayBe_0 : decode cX11_mayBe 0 = .ok (.iload_n 1, 1) := by decide +kernel
theorem dX11_mayBe_1 : decode cX11_mayBe 1 = .ok (.istore_n 2, 1) := by decide +kernel
theorem dX11_mayBe_2 : decode cX11_mayBe 2 = .ok (.iconst 0, 1) := by decide +kernel
theorem dX11_mayBe_3 : decode cX11_mayBe 3 = .ok (.istore_n 3, 1) := by decide +kernel
theorem dX11_mayBe_4 : decode cX11_mayBe 4 = .ok (.iload_n 3, 1) := by decide +kernel
theorem dX11_mayBe_5 : decode cX11_mayBe 5 = .ok (.aload_n 0, 1) := by decide +kernel
theorem dX11_mayBe_6 : decode cX11_mayBe 6 = .ok (.getfield 221, 3) := by decide +kernel
theorem dX11_mayBe_9 : decode cX11_mayBe 9 = .ok (.if_icmp .ge 27, 3) := by decide +kernel
theorem dX11_mayBe_12 : decode cX11_mayBe 12 = .ok (.aload_n 0, 1) := by decide +kernel
theorem dX11_mayBe_13 : decode cX11_mayBe 13 = .ok (.getfield 58, 3) := by decide +kernel
theorem dX11_mayBe_16 : decode cX11_mayBe 16 = .ok (.iload_n 3, 1) := by decide +kernel
theorem dX11_mayBe_17 : decode cX11_mayBe 17 = .ok (.iaload, 1) := by decide +kernel
theorem dX11_mayBe_18 : decode cX11_mayBe 18 = .ok (.iconst 1, 1) := by decide +kernel
theorem dX11_mayBe_19 : decode cX11_mayBe 19 = .ok (.if_icmp .ne 11, 3) := by decide +kernel
theorem dX11_mayBe_22 : decode cX11_mayBe 22 = .ok (.iload_n 2, 1) := by decide +kernel
theorem dX11_mayBe_23 : decode cX11_mayBe 23 = .ok (.iconst 1, 1) := by decide +kernel
theorem dX11_mayBe_24 : decode cX11_mayBe 24 = .ok (.iload_n 3, 1) := by decide +kernel
theorem dX11_mayBe_25 : decode cX11_mayBe 25 = .ok (.ishl, 1) := by decide +kernel
theorem dX11_mayBe_26 : decode cX11_mayBe 26 = .ok (.iconst (-1), 1) := by decide +kernel
theorem dX11_mayBe_27 : decode cX11_mayBe 27 = .ok (.ixor, 1) := by decide +kernel
theorem dX11_mayBe_28 : decode cX11_mayBe 28 = .ok (.iand, 1) := by decide +kernel
theorem dX11_mayBe_29 : decode cX11_mayBe 29 = .ok (.istore_n 2, 1) := by decide +kernel
theorem dX11_mayBe_30 : decode cX11_mayBe 30 = .ok (.iinc 3 1, 3) := by decide +kernel
theorem dX11_mayBe_33 : decode cX11_mayBe 33 = .ok (.goto (-29), 3) := by decide +kernel
theorem dX11_mayBe_36 : decode cX11_mayBe 36 = .ok (.iconst 0, 1) := by decide +kernel
theorem dX11_mayBe_37 : decode cX11_mayBe 37 = .ok (.istore_n 3, 1) := by decide +kernel
theorem dX11_mayBe_38 : decode cX11_mayBe 38 = .ok (.iconst 0, 1) := by decide +kernel
theorem dX11_mayBe_39 : decode cX11_mayBe 39 = .ok (.istore 4, 2) := by decide +kernel
theorem dX11_mayBe_41 : decode cX11_mayBe 41 = .ok (.iload 4, 2) := by decide +kernel
theorem dX11_mayBe_43 : decode cX11_mayBe 43 = .ok (.aload_n 0, 1) := by decide +kernel
theorem dX11_mayBe_44 : decode cX11_mayBe 44 = .ok (.getfield 215, 3) := by decide +kernel
theorem dX11_mayBe_47 : decode cX11_mayBe 47 = .ok (.if_icmp .ge 30, 3) := by decide +kernel
theorem dX11_mayBe_50 : decode cX11_mayBe 50 = .ok (.iload_n 3, 1) := by decide +kernel
theorem dX11_mayBe_51 : decode cX11_mayBe 51 = .ok (.aload_n 0, 1) := by decide +kernel
theorem dX11_mayBe_52 : decode cX11_mayBe 52 = .ok (.getfield 89, 3) := by decide +kernel
theorem dX11_mayBe_55 : decode cX11_mayBe 55 = .ok (.iload 4, 2) := by decide +kernel
theorem dX11_mayBe_57 : decode cX11_mayBe 57 = .ok (.iaload, 1) := by decide +kernel
theorem dX11_mayBe_58 : decode cX11_mayBe 58 = .ok (.iload_n 2, 1) := by decide +kernel
theorem dX11_mayBe_59 : decode cX11_mayBe 59 = .ok (.iand, 1) := by decide +kernel
theorem dX11_mayBe_60 : decode cX11_mayBe 60 = .ok (.iload_n 2, 1) := by decide +kernel
theorem dX11_mayBe_61 : decode cX11_mayBe 61 = .ok (.if_icmp .ne 7, 3) := by decide +kernel
theorem dX11_mayBe_64 : decode cX11_mayBe 64 = .ok (.iconst 1, 1) := by decide +kernel
theorem dX11_mayBe_65 : decode cX11_mayBe 65 = .ok (.goto 4, 3) := by decide +kernel
theorem dX11_mayBe_68 : decode cX11_mayBe 68 = .ok (.iconst 0, 1) := by decide +kernel
theorem dX11_mayBe_69 : decode cX11_mayBe 69 = .ok (.iadd, 1) := by decide +kernel
theorem dX11_mayBe_70 : decode cX11_mayBe 70 = .ok (.istore_n 3, 1) := by decide +kernel
theorem dX11_mayBe_71 : decode cX11_mayBe 71 = .ok (.iinc 4 1, 3) := by decide +kernel
theorem dX11_mayBe_74 : decode cX11_mayBe 74 = .ok (.goto (-33), 3) := by decide +kernel
theorem dX11_mayBe_77 : decode cX11_mayBe 77 = .ok (.iload_n 3, 1) := by decide +kernel
theorem dX11_mayBe_78 : decode cX11_mayBe 78 = .ok (.ireturn, 1) := by decide +kernel
theorem dX11_toldAt_0 : decode cX11_toldAt 0 = .ok (.iconst 0, 1) := by decide +kernel
theorem dX11_toldAt_1 : decode cX11_toldAt 1 = .ok (.istore_n 3, 1) := by decide +kernel
theorem dX11_toldAt_2 : decode cX11_toldAt 2 = .ok (.iconst 0, 1) := by decide +kernel
theorem dX11_toldAt_3 : decode cX11_toldAt 3 = .ok (.istore 4, 2) := by decide +kernel
theorem dX11_toldAt_5 : decode cX11_toldAt 5 = .ok (.iload 4, 2) := by decide +kernel
theorem dX11_toldAt_7 : decode cX11_toldAt 7 = .ok (.aload_n 0, 1) := by decide +kernel
theorem dX11_toldAt_8 : decode cX11_toldAt 8 = .ok (.getfield 76, 3) := by decide +kernel
theorem dX11_toldAt_11 : decode cX11_toldAt 11 = .ok (.if_icmp .gt 129, 3) := by decide +kernel
theorem dX11_toldAt_14 : decode cX11_toldAt 14 = .ok (.aload_n 0, 1) := by decide +kernel
theorem dX11_toldAt_15 : decode cX11_toldAt 15 = .ok (.getfield 92, 3) := by decide +kernel
theorem dX11_toldAt_18 : decode cX11_toldAt 18 = .ok (.sipush 601, 3) := by decide +kernel
theorem dX11_toldAt_21 : decode cX11_toldAt 21 = .ok (.iload_n 1, 1) := by decide +kernel
theorem dX11_toldAt_22 : decode cX11_toldAt 22 = .ok (.imul, 1) := by decide +kernel
theorem dX11_toldAt_23 : decode cX11_toldAt 23 = .ok (.iload 4, 2) := by decide +kernel
theorem dX11_toldAt_25 : decode cX11_toldAt 25 = .ok (.iadd, 1) := by decide +kernel
theorem dX11_toldAt_26 : decode cX11_toldAt 26 = .ok (.iaload, 1) := by decide +kernel
theorem dX11_toldAt_27 : decode cX11_toldAt 27 = .ok (.iload_n 3, 1) := by decide +kernel
theorem dX11_toldAt_28 : decode cX11_toldAt 28 = .ok (.iconst (-1), 1) := by decide +kernel
theorem dX11_toldAt_29 : decode cX11_toldAt 29 = .ok (.ixor, 1) := by decide +kernel
theorem dX11_toldAt_30 : decode cX11_toldAt 30 = .ok (.iand, 1) := by decide +kernel
theorem dX11_toldAt_31 : decode cX11_toldAt 31 = .ok (.istore 5, 2) := by decide +kernel
theorem dX11_toldAt_33 : decode cX11_toldAt 33 = .ok (.iload 5, 2) := by decide +kernel
theorem dX11_toldAt_35 : decode cX11_toldAt 35 = .ok (.ifCond .ne 9, 3) := by decide +kernel
theorem dX11_toldAt_38 : decode cX11_toldAt 38 = .ok (.iinc 4 1, 3) := by decide +kernel
theorem dX11_toldAt_41 : decode cX11_toldAt 41 = .ok (.goto (-36), 3) := by decide +kernel
theorem dX11_toldAt_44 : decode cX11_toldAt 44 = .ok (.iconst (-1), 1) := by decide +kernel
theorem dX11_toldAt_45 : decode cX11_toldAt 45 = .ok (.istore 6, 2) := by decide +kernel
theorem dX11_toldAt_47 : decode cX11_toldAt 47 = .ok (.iconst 0, 1) := by decide +kernel
theorem dX11_toldAt_48 : decode cX11_toldAt 48 = .ok (.istore 7, 2) := by decide +kernel
theorem dX11_toldAt_50 : decode cX11_toldAt 50 = .ok (.iload 7, 2) := by decide +kernel
theorem dX11_toldAt_52 : decode cX11_toldAt 52 = .ok (.aload_n 0, 1) := by decide +kernel
theorem dX11_toldAt_53 : decode cX11_toldAt 53 = .ok (.getfield 221, 3) := by decide +kernel
theorem dX11_toldAt_56 : decode cX11_toldAt 56 = .ok (.if_icmp .ge 47, 3) := by decide +kernel
theorem dX11_toldAt_59 : decode cX11_toldAt 59 = .ok (.iload 5, 2) := by decide +kernel
theorem dX11_toldAt_61 : decode cX11_toldAt 61 = .ok (.iload 7, 2) := by decide +kernel
theorem dX11_toldAt_63 : decode cX11_toldAt 63 = .ok (.ishr, 1) := by decide +kernel
theorem dX11_toldAt_64 : decode cX11_toldAt 64 = .ok (.iconst 1, 1) := by decide +kernel
theorem dX11_toldAt_65 : decode cX11_toldAt 65 = .ok (.iand, 1) := by decide +kernel
theorem dX11_toldAt_66 : decode cX11_toldAt 66 = .ok (.iconst 1, 1) := by decide +kernel
theorem dX11_toldAt_67 : decode cX11_toldAt 67 = .ok (.if_icmp .ne 30, 3) := by decide +kernel
theorem dX11_toldAt_70 : decode cX11_toldAt 70 = .ok (.iload 6, 2) := by decide +kernel
theorem dX11_toldAt_72 : decode cX11_toldAt 72 = .ok (.iconst (-1), 1) := by decide +kernel
theorem dX11_toldAt_73 : decode cX11_toldAt 73 = .ok (.if_icmp .eq 20, 3) := by decide +kernel
theorem dX11_toldAt_76 : decode cX11_toldAt 76 = .ok (.aload_n 0, 1) := by decide +kernel
theorem dX11_toldAt_77 : decode cX11_toldAt 77 = .ok (.getfield 61, 3) := by decide +kernel
theorem dX11_toldAt_80 : decode cX11_toldAt 80 = .ok (.iload 7, 2) := by decide +kernel
theorem dX11_toldAt_82 : decode cX11_toldAt 82 = .ok (.iaload, 1) := by decide +kernel
theorem dX11_toldAt_83 : decode cX11_toldAt 83 = .ok (.aload_n 0, 1) := by decide +kernel
theorem dX11_toldAt_84 : decode cX11_toldAt 84 = .ok (.getfield 61, 3) := by decide +kernel
theorem dX11_toldAt_87 : decode cX11_toldAt 87 = .ok (.iload 6, 2) := by decide +kernel
theorem dX11_toldAt_89 : decode cX11_toldAt 89 = .ok (.iaload, 1) := by decide +kernel
theorem dX11_toldAt_90 : decode cX11_toldAt 90 = .ok (.if_icmp .ge 7, 3) := by decide +kernel
theorem dX11_toldAt_93 : decode cX11_toldAt 93 = .ok (.iload 7, 2) := by decide +kernel
theorem dX11_toldAt_95 : decode cX11_toldAt 95 = .ok (.istore 6, 2) := by decide +kernel
theorem dX11_toldAt_97 : decode cX11_toldAt 97 = .ok (.iinc 7 1, 3) := by decide +kernel
theorem dX11_toldAt_100 : decode cX11_toldAt 100 = .ok (.goto (-50), 3) := by decide +kernel
theorem dX11_toldAt_103 : decode cX11_toldAt 103 = .ok (.iload_n 3, 1) := by decide +kernel
theorem dX11_toldAt_104 : decode cX11_toldAt 104 = .ok (.iconst 1, 1) := by decide +kernel
theorem dX11_toldAt_105 : decode cX11_toldAt 105 = .ok (.iload 6, 2) := by decide +kernel
theorem dX11_toldAt_107 : decode cX11_toldAt 107 = .ok (.ishl, 1) := by decide +kernel
theorem dX11_toldAt_108 : decode cX11_toldAt 108 = .ok (.ior, 1) := by decide +kernel
theorem dX11_toldAt_109 : decode cX11_toldAt 109 = .ok (.istore_n 3, 1) := by decide +kernel
theorem dX11_toldAt_110 : decode cX11_toldAt 110 = .ok (.iload 4, 2) := by decide +kernel
theorem dX11_toldAt_112 : decode cX11_toldAt 112 = .ok (.iload_n 2, 1) := by decide +kernel
theorem dX11_toldAt_113 : decode cX11_toldAt 113 = .ok (.iadd, 1) := by decide +kernel
theorem dX11_toldAt_114 : decode cX11_toldAt 114 = .ok (.istore 4, 2) := by decide +kernel
theorem dX11_toldAt_116 : decode cX11_toldAt 116 = .ok (.iload 4, 2) := by decide +kernel
theorem dX11_toldAt_118 : decode cX11_toldAt 118 = .ok (.aload_n 0, 1) := by decide +kernel
theorem dX11_toldAt_119 : decode cX11_toldAt 119 = .ok (.getfield 76, 3) := by decide +kernel
theorem dX11_toldAt_122 : decode cX11_toldAt 122 = .ok (.if_icmp .gt 15, 3) := by decide +kernel
theorem dX11_toldAt_125 : decode cX11_toldAt 125 = .ok (.aload_n 0, 1) := by decide +kernel
theorem dX11_toldAt_126 : decode cX11_toldAt 126 = .ok (.iload_n 3, 1) := by decide +kernel
theorem dX11_toldAt_127 : decode cX11_toldAt 127 = .ok (.invokevirtual 317, 3) := by decide +kernel
theorem dX11_toldAt_130 : decode cX11_toldAt 130 = .ok (.iconst 1, 1) := by decide +kernel
theorem dX11_toldAt_131 : decode cX11_toldAt 131 = .ok (.if_icmp .ne 6, 3) := by decide +kernel
theorem dX11_toldAt_134 : decode cX11_toldAt 134 = .ok (.iload 4, 2) := by decide +kernel
theorem dX11_toldAt_136 : decode cX11_toldAt 136 = .ok (.ireturn, 1) := by decide +kernel
theorem dX11_toldAt_137 : decode cX11_toldAt 137 = .ok (.goto (-132), 3) := by decide +kernel
theorem dX11_toldAt_140 : decode cX11_toldAt 140 = .ok (.iconst (-1), 1) := by decide +kernel
theorem dX11_toldAt_141 : decode cX11_toldAt 141 = .ok (.ireturn, 1) := by decide +kernel
theorem dX11_told_0 : decode cX11_told 0 = .ok (.aload_n 0, 1) := by decide +kernel
theorem dX11_told_1 : decode cX11_told 1 = .ok (.iload_n 1, 1) := by decide +kernel
theorem dX11_told_2 : decode cX11_told 2 = .ok (.invokevirtual 241, 3) := by decide +kernel
theorem dX11_told_5 : decode cX11_told 5 = .ok (.ifCond .eq 13, 3) := by decide +kernel
theorem dX11_told_8 : decode cX11_told 8 = .ok (.iload_n 2, 1) := by decide +kernel
theorem dX11_told_9 : decode cX11_told 9 = .ok (.iconst 1, 1) := by decide +kernel
theorem dX11_told_10 : decode cX11_told 10 = .ok (.bipush 30, 2) := by decide +kernel
theorem dX11_told_12 : decode cX11_told 12 = .ok (.invokestatic 98, 3) := by decide +kernel
theorem dX11_told_15 : decode cX11_told 15 = .ok (.ifCond .ne 5, 3) := by decide +kernel
theorem dX11_told_18 : decode cX11_told 18 = .ok (.iconst (-1), 1) := by decide +kernel
theorem dX11_told_19 : decode cX11_told 19 = .ok (.ireturn, 1) := by decide +kernel
theorem dX11_told_20 : decode cX11_told 20 = .ok (.aload_n 0, 1) := by decide +kernel
theorem dX11_told_21 : decode cX11_told 21 = .ok (.invokevirtual 320, 3) := by decide +kernel
theorem dX11_told_24 : decode cX11_told 24 = .ok (.aload_n 0, 1) := by decide +kernel
theorem dX11_told_25 : decode cX11_told 25 = .ok (.iload_n 1, 1) := by decide +kernel
theorem dX11_told_26 : decode cX11_told 26 = .ok (.iload_n 2, 1) := by decide +kernel
theorem dX11_told_27 : decode cX11_told 27 = .ok (.invokevirtual 323, 3) := by decide +kernel
theorem dX11_told_30 : decode cX11_told 30 = .ok (.ireturn, 1) := by decide +kernel
theorem dX11_sum_0 : decode cX11_sum 0 = .ok (.iconst 0, 1) := by decide +kernel
theorem dX11_sum_1 : decode cX11_sum 1 = .ok (.istore_n 2, 1) := by decide +kernel
theorem dX11_sum_2 : decode cX11_sum 2 = .ok (.iconst 0, 1) := by decide +kernel
theorem dX11_sum_3 : decode cX11_sum 3 = .ok (.istore_n 3, 1) := by decide +kernel
theorem dX11_sum_4 : decode cX11_sum 4 = .ok (.iload_n 3, 1) := by decide +kernel
theorem dX11_sum_5 : decode cX11_sum 5 = .ok (.aload_n 0, 1) := by decide +kernel
theorem dX11_sum_6 : decode cX11_sum 6 = .ok (.getfield 215, 3) := by decide +kernel
theorem dX11_sum_9 : decode cX11_sum 9 = .ok (.if_icmp .ge 35, 3) := by decide +kernel
theorem dX11_sum_12 : decode cX11_sum 12 = .ok (.aload_n 0, 1) := by decide +kernel
theorem dX11_sum_13 : decode cX11_sum 13 = .ok (.iload_n 3, 1) := by decide +kernel
theorem dX11_sum_14 : decode cX11_sum 14 = .ok (.iload_n 1, 1) := by decide +kernel
theorem dX11_sum_15 : decode cX11_sum 15 = .ok (.invokevirtual 323, 3) := by decide +kernel
theorem dX11_sum_18 : decode cX11_sum 18 = .ok (.istore 4, 2) := by decide +kernel
theorem dX11_sum_20 : decode cX11_sum 20 = .ok (.iload_n 2, 1) := by decide +kernel
theorem dX11_sum_21 : decode cX11_sum 21 = .ok (.iload 4, 2) := by decide +kernel
theorem dX11_sum_23 : decode cX11_sum 23 = .ok (.iconst (-1), 1) := by decide +kernel
theorem dX11_sum_24 : decode cX11_sum 24 = .ok (.if_icmp .ne 10, 3) := by decide +kernel
theorem dX11_sum_27 : decode cX11_sum 27 = .ok (.aload_n 0, 1) := by decide +kernel
theorem dX11_sum_28 : decode cX11_sum 28 = .ok (.getfield 76, 3) := by decide +kernel
theorem dX11_sum_31 : decode cX11_sum 31 = .ok (.goto 5, 3) := by decide +kernel
theorem dX11_sum_34 : decode cX11_sum 34 = .ok (.iload 4, 2) := by decide +kernel
theorem dX11_sum_36 : decode cX11_sum 36 = .ok (.iadd, 1) := by decide +kernel
theorem dX11_sum_37 : decode cX11_sum 37 = .ok (.istore_n 2, 1) := by decide +kernel
theorem dX11_sum_38 : decode cX11_sum 38 = .ok (.iinc 3 1, 3) := by decide +kernel
theorem dX11_sum_41 : decode cX11_sum 41 = .ok (.goto (-37), 3) := by decide +kernel
theorem dX11_sum_44 : decode cX11_sum 44 = .ok (.iload_n 2, 1) := by decide +kernel
theorem dX11_sum_45 : decode cX11_sum 45 = .ok (.ireturn, 1) := by decide +kernel
theorem dX11_wall_0 : decode cX11_wall 0 = .ok (.aload_n 0, 1) := by decide +kernel
theorem dX11_wall_1 : decode cX11_wall 1 = .ok (.getfield 215, 3) := by decide +kernel
theorem dX11_wall_4 : decode cX11_wall 4 = .ok (.ifCond .eq 22, 3) := by decide +kernel
theorem dX11_wall_7 : decode cX11_wall 7 = .ok (.iload_n 1, 1) := by decide +kernel
theorem dX11_wall_8 : decode cX11_wall 8 = .ok (.iconst 1, 1) := by decide +kernel
theorem dX11_wall_9 : decode cX11_wall 9 = .ok (.bipush 30, 2) := by decide +kernel
theorem dX11_wall_11 : decode cX11_wall 11 = .ok (.invokestatic 98, 3) := by decide +kernel
theorem dX11_wall_14 : decode cX11_wall 14 = .ok (.ifCond .eq 12, 3) := by decide +kernel
theorem dX11_wall_17 : decode cX11_wall 17 = .ok (.iload_n 2, 1) := by decide +kernel
theorem dX11_wall_18 : decode cX11_wall 18 = .ok (.iconst 0, 1) := by decide +kernel
theorem dX11_wall_19 : decode cX11_wall 19 = .ok (.iconst 3, 1) := by decide +kernel
theorem dX11_wall_20 : decode cX11_wall 20 = .ok (.invokestatic 98, 3) := by decide +kernel
theorem dX11_wall_23 : decode cX11_wall 23 = .ok (.ifCond .ne 5, 3) := by decide +kernel
theorem dX11_wall_26 : decode cX11_wall 26 = .ok (.iconst (-1), 1) := by decide +kernel
theorem dX11_wall_27 : decode cX11_wall 27 = .ok (.ireturn, 1) := by decide +kernel
theorem dX11_wall_28 : decode cX11_wall 28 = .ok (.aload_n 0, 1) := by decide +kernel
theorem dX11_wall_29 : decode cX11_wall 29 = .ok (.invokevirtual 320, 3) := by decide +kernel
theorem dX11_wall_32 : decode cX11_wall 32 = .ok (.aload_n 0, 1) := by decide +kernel
theorem dX11_wall_33 : decode cX11_wall 33 = .ok (.iload_n 1, 1) := by decide +kernel
theorem dX11_wall_34 : decode cX11_wall 34 = .ok (.invokevirtual 326, 3) := by decide +kernel
theorem dX11_wall_37 : decode cX11_wall 37 = .ok (.istore_n 3, 1) := by decide +kernel
theorem dX11_wall_38 : decode cX11_wall 38 = .ok (.iload_n 2, 1) := by decide +kernel
theorem dX11_wall_39 : decode cX11_wall 39 = .ok (.ifCond .ne 5, 3) := by decide +kernel
theorem dX11_wall_42 : decode cX11_wall 42 = .ok (.iload_n 3, 1) := by decide +kernel
theorem dX11_wall_43 : decode cX11_wall 43 = .ok (.ireturn, 1) := by decide +kernel
theorem dX11_wall_44 : decode cX11_wall 44 = .ok (.iload_n 3, 1) := by decide +kernel
theorem dX11_wall_45 : decode cX11_wall 45 = .ok (.istore 4, 2) := by decide +kernel
theorem dX11_wall_47 : decode cX11_wall 47 = .ok (.iconst (-1), 1) := by decide +kernel
theorem dX11_wall_48 : decode cX11_wall 48 = .ok (.istore 5, 2) := by decide +kernel
theorem dX11_wall_50 : decode cX11_wall 50 = .ok (.iconst (-1), 1) := by decide +kernel
theorem dX11_wall_51 : decode cX11_wall 51 = .ok (.istore 6, 2) := by decide +kernel
theorem dX11_wall_53 : decode cX11_wall 53 = .ok (.iconst 0, 1) := by decide +kernel
theorem dX11_wall_54 : decode cX11_wall 54 = .ok (.istore 7, 2) := by decide +kernel
theorem dX11_wall_56 : decode cX11_wall 56 = .ok (.iload 7, 2) := by decide +kernel
theorem dX11_wall_58 : decode cX11_wall 58 = .ok (.aload_n 0, 1) := by decide +kernel
theorem dX11_wall_59 : decode cX11_wall 59 = .ok (.getfield 221, 3) := by decide +kernel
theorem dX11_wall_62 : decode cX11_wall 62 = .ok (.if_icmp .ge 75, 3) := by decide +kernel
theorem dX11_wall_65 : decode cX11_wall 65 = .ok (.iload 7, 2) := by decide +kernel
theorem dX11_wall_67 : decode cX11_wall 67 = .ok (.iconst 1, 1) := by decide +kernel
theorem dX11_wall_68 : decode cX11_wall 68 = .ok (.iadd, 1) := by decide +kernel
theorem dX11_wall_69 : decode cX11_wall 69 = .ok (.istore 8, 2) := by decide +kernel
theorem dX11_wall_71 : decode cX11_wall 71 = .ok (.iload 8, 2) := by decide +kernel
theorem dX11_wall_73 : decode cX11_wall 73 = .ok (.aload_n 0, 1) := by decide +kernel
theorem dX11_wall_74 : decode cX11_wall 74 = .ok (.getfield 221, 3) := by decide +kernel
theorem dX11_wall_77 : decode cX11_wall 77 = .ok (.if_icmp .ge 54, 3) := by decide +kernel
theorem dX11_wall_80 : decode cX11_wall 80 = .ok (.aload_n 0, 1) := by decide +kernel
theorem dX11_wall_81 : decode cX11_wall 81 = .ok (.iload 7, 2) := by decide +kernel
theorem dX11_wall_83 : decode cX11_wall 83 = .ok (.iload 8, 2) := by decide +kernel
theorem dX11_wall_85 : decode cX11_wall 85 = .ok (.invokevirtual 310, 3) := by decide +kernel
theorem dX11_wall_88 : decode cX11_wall 88 = .ok (.aload_n 0, 1) := by decide +kernel
theorem dX11_wall_89 : decode cX11_wall 89 = .ok (.iload_n 1, 1) := by decide +kernel
theorem dX11_wall_90 : decode cX11_wall 90 = .ok (.invokevirtual 326, 3) := by decide +kernel
theorem dX11_wall_93 : decode cX11_wall 93 = .ok (.istore 9, 2) := by decide +kernel
theorem dX11_wall_95 : decode cX11_wall 95 = .ok (.aload_n 0, 1) := by decide +kernel
theorem dX11_wall_96 : decode cX11_wall 96 = .ok (.iload 7, 2) := by decide +kernel
theorem dX11_wall_98 : decode cX11_wall 98 = .ok (.iload 8, 2) := by decide +kernel
theorem dX11_wall_100 : decode cX11_wall 100 = .ok (.invokevirtual 310, 3) := by decide +kernel
theorem dX11_wall_103 : decode cX11_wall 103 = .ok (.iload 9, 2) := by decide +kernel
theorem dX11_wall_105 : decode cX11_wall 105 = .ok (.iload 4, 2) := by decide +kernel
theorem dX11_wall_107 : decode cX11_wall 107 = .ok (.if_icmp .lt 6, 3) := by decide +kernel
theorem dX11_wall_110 : decode cX11_wall 110 = .ok (.goto 15, 3) := by decide +kernel
theorem dX11_wall_113 : decode cX11_wall 113 = .ok (.iload 9, 2) := by decide +kernel
theorem dX11_wall_115 : decode cX11_wall 115 = .ok (.istore 4, 2) := by decide +kernel
theorem dX11_wall_117 : decode cX11_wall 117 = .ok (.iload 7, 2) := by decide +kernel
theorem dX11_wall_119 : decode cX11_wall 119 = .ok (.istore 5, 2) := by decide +kernel
theorem dX11_wall_121 : decode cX11_wall 121 = .ok (.iload 8, 2) := by decide +kernel
theorem dX11_wall_123 : decode cX11_wall 123 = .ok (.istore 6, 2) := by decide +kernel
theorem dX11_wall_125 : decode cX11_wall 125 = .ok (.iinc 8 1, 3) := by decide +kernel
theorem dX11_wall_128 : decode cX11_wall 128 = .ok (.goto (-57), 3) := by decide +kernel
theorem dX11_wall_131 : decode cX11_wall 131 = .ok (.iinc 7 1, 3) := by decide +kernel
theorem dX11_wall_134 : decode cX11_wall 134 = .ok (.goto (-78), 3) := by decide +kernel
theorem dX11_wall_137 : decode cX11_wall 137 = .ok (.iload 5, 2) := by decide +kernel
theorem dX11_wall_139 : decode cX11_wall 139 = .ok (.iconst (-1), 1) := by decide +kernel
theorem dX11_wall_140 : decode cX11_wall 140 = .ok (.if_icmp .ne 7, 3) := by decide +kernel
theorem dX11_wall_143 : decode cX11_wall 143 = .ok (.iconst (-1), 1) := by decide +kernel
theorem dX11_wall_144 : decode cX11_wall 144 = .ok (.goto 25, 3) := by decide +kernel
theorem dX11_wall_147 : decode cX11_wall 147 = .ok (.iload_n 2, 1) := by decide +kernel
theorem dX11_wall_148 : decode cX11_wall 148 = .ok (.iconst 1, 1) := by decide +kernel
theorem dX11_wall_149 : decode cX11_wall 149 = .ok (.if_icmp .ne 8, 3) := by decide +kernel
theorem dX11_wall_152 : decode cX11_wall 152 = .ok (.iload 5, 2) := by decide +kernel
theorem dX11_wall_154 : decode cX11_wall 154 = .ok (.goto 15, 3) := by decide +kernel
theorem dX11_wall_157 : decode cX11_wall 157 = .ok (.iload_n 2, 1) := by decide +kernel
theorem dX11_wall_158 : decode cX11_wall 158 = .ok (.iconst 2, 1) := by decide +kernel
theorem dX11_wall_159 : decode cX11_wall 159 = .ok (.if_icmp .ne 8, 3) := by decide +kernel
theorem dX11_wall_162 : decode cX11_wall 162 = .ok (.iload 6, 2) := by decide +kernel
theorem dX11_wall_164 : decode cX11_wall 164 = .ok (.goto 5, 3) := by decide +kernel
theorem dX11_wall_167 : decode cX11_wall 167 = .ok (.iload 4, 2) := by decide +kernel
theorem dX11_wall_169 : decode cX11_wall 169 = .ok (.ireturn, 1) := by decide +kernel
theorem dX11_count_0 : decode cX11_count 0 = .ok (.iconst 0, 1) := by decide +kernel
theorem dX11_count_1 : decode cX11_count 1 = .ok (.istore_n 2, 1) := by decide +kernel
theorem dX11_count_2 : decode cX11_count 2 = .ok (.iload_n 1, 1) := by decide +kernel
theorem dX11_count_3 : decode cX11_count 3 = .ok (.tableswitch 145 0 7 #[45, 50, 55, 60, 65, 70, 105, 140], 45) := by decide +kernel
theorem dX11_count_48 : decode cX11_count 48 = .ok (.aload_n 0, 1) := by decide +kernel
theorem dX11_count_49 : decode cX11_count 49 = .ok (.getfield 215, 3) := by decide +kernel
theorem dX11_count_52 : decode cX11_count 52 = .ok (.ireturn, 1) := by decide +kernel
theorem dX11_count_53 : decode cX11_count 53 = .ok (.aload_n 0, 1) := by decide +kernel
theorem dX11_count_54 : decode cX11_count 54 = .ok (.getfield 218, 3) := by decide +kernel
theorem dX11_count_57 : decode cX11_count 57 = .ok (.ireturn, 1) := by decide +kernel
theorem dX11_count_58 : decode cX11_count 58 = .ok (.aload_n 0, 1) := by decide +kernel
theorem dX11_count_59 : decode cX11_count 59 = .ok (.getfield 221, 3) := by decide +kernel
theorem dX11_count_62 : decode cX11_count 62 = .ok (.ireturn, 1) := by decide +kernel
theorem dX11_count_63 : decode cX11_count 63 = .ok (.aload_n 0, 1) := by decide +kernel
theorem dX11_count_64 : decode cX11_count 64 = .ok (.getfield 224, 3) := by decide +kernel
theorem dX11_count_67 : decode cX11_count 67 = .ok (.ireturn, 1) := by decide +kernel
theorem dX11_count_68 : decode cX11_count 68 = .ok (.aload_n 0, 1) := by decide +kernel
theorem dX11_count_69 : decode cX11_count 69 = .ok (.getfield 227, 3) := by decide +kernel
theorem dX11_count_72 : decode cX11_count 72 = .ok (.ireturn, 1) := by decide +kernel
theorem dX11_count_73 : decode cX11_count 73 = .ok (.iconst 0, 1) := by decide +kernel
theorem dX11_count_74 : decode cX11_count 74 = .ok (.istore_n 3, 1) := by decide +kernel
theorem dX11_count_75 : decode cX11_count 75 = .ok (.iload_n 3, 1) := by decide +kernel
theorem dX11_count_76 : decode cX11_count 76 = .ok (.aload_n 0, 1) := by decide +kernel
theorem dX11_count_77 : decode cX11_count 77 = .ok (.getfield 224, 3) := by decide +kernel
theorem dX11_count_80 : decode cX11_count 80 = .ok (.if_icmp .ge 26, 3) := by decide +kernel
theorem dX11_count_83 : decode cX11_count 83 = .ok (.iload_n 2, 1) := by decide +kernel
theorem dX11_count_84 : decode cX11_count 84 = .ok (.aload_n 0, 1) := by decide +kernel
theorem dX11_count_85 : decode cX11_count 85 = .ok (.getfield 67, 3) := by decide +kernel
theorem dX11_count_88 : decode cX11_count 88 = .ok (.iload_n 3, 1) := by decide +kernel
theorem dX11_count_89 : decode cX11_count 89 = .ok (.baload, 1) := by decide +kernel
theorem dX11_count_90 : decode cX11_count 90 = .ok (.ifCond .eq 7, 3) := by decide +kernel
theorem dX11_count_93 : decode cX11_count 93 = .ok (.iconst 1, 1) := by decide +kernel
theorem dX11_count_94 : decode cX11_count 94 = .ok (.goto 4, 3) := by decide +kernel
theorem dX11_count_97 : decode cX11_count 97 = .ok (.iconst 0, 1) := by decide +kernel
theorem dX11_count_98 : decode cX11_count 98 = .ok (.iadd, 1) := by decide +kernel
theorem dX11_count_99 : decode cX11_count 99 = .ok (.istore_n 2, 1) := by decide +kernel
theorem dX11_count_100 : decode cX11_count 100 = .ok (.iinc 3 1, 3) := by decide +kernel
theorem dX11_count_103 : decode cX11_count 103 = .ok (.goto (-28), 3) := by decide +kernel
theorem dX11_count_106 : decode cX11_count 106 = .ok (.iload_n 2, 1) := by decide +kernel
theorem dX11_count_107 : decode cX11_count 107 = .ok (.ireturn, 1) := by decide +kernel
theorem dX11_count_108 : decode cX11_count 108 = .ok (.iconst 0, 1) := by decide +kernel
theorem dX11_count_109 : decode cX11_count 109 = .ok (.istore_n 3, 1) := by decide +kernel
theorem dX11_count_110 : decode cX11_count 110 = .ok (.iload_n 3, 1) := by decide +kernel
theorem dX11_count_111 : decode cX11_count 111 = .ok (.aload_n 0, 1) := by decide +kernel
theorem dX11_count_112 : decode cX11_count 112 = .ok (.getfield 221, 3) := by decide +kernel
theorem dX11_count_115 : decode cX11_count 115 = .ok (.if_icmp .ge 26, 3) := by decide +kernel
theorem dX11_count_118 : decode cX11_count 118 = .ok (.iload_n 2, 1) := by decide +kernel
theorem dX11_count_119 : decode cX11_count 119 = .ok (.aload_n 0, 1) := by decide +kernel
theorem dX11_count_120 : decode cX11_count 120 = .ok (.getfield 58, 3) := by decide +kernel
theorem dX11_count_123 : decode cX11_count 123 = .ok (.iload_n 3, 1) := by decide +kernel
theorem dX11_count_124 : decode cX11_count 124 = .ok (.iaload, 1) := by decide +kernel
theorem dX11_count_125 : decode cX11_count 125 = .ok (.ifCond .ne 7, 3) := by decide +kernel
theorem dX11_count_128 : decode cX11_count 128 = .ok (.iconst 0, 1) := by decide +kernel
theorem dX11_count_129 : decode cX11_count 129 = .ok (.goto 4, 3) := by decide +kernel
theorem dX11_count_132 : decode cX11_count 132 = .ok (.iconst 1, 1) := by decide +kernel
theorem dX11_count_133 : decode cX11_count 133 = .ok (.iadd, 1) := by decide +kernel
theorem dX11_count_134 : decode cX11_count 134 = .ok (.istore_n 2, 1) := by decide +kernel
theorem dX11_count_135 : decode cX11_count 135 = .ok (.iinc 3 1, 3) := by decide +kernel
theorem dX11_count_138 : decode cX11_count 138 = .ok (.goto (-28), 3) := by decide +kernel
theorem dX11_count_141 : decode cX11_count 141 = .ok (.iload_n 2, 1) := by decide +kernel
theorem dX11_count_142 : decode cX11_count 142 = .ok (.ireturn, 1) := by decide +kernel
theorem dX11_count_143 : decode cX11_count 143 = .ok (.aload_n 0, 1) := by decide +kernel
theorem dX11_count_144 : decode cX11_count 144 = .ok (.getfield 95, 3) := by decide +kernel
theorem dX11_count_147 : decode cX11_count 147 = .ok (.ireturn, 1) := by decide +kernel
theorem dX11_count_148 : decode cX11_count 148 = .ok (.iconst (-1), 1) := by decide +kernel
theorem dX11_count_149 : decode cX11_count 149 = .ok (.ireturn, 1) := by decide +kernel
theorem dJ6_bitCount_0f7a4_0 : decode cJ6_bitCount_0f7a4 0 = .ok (.iload_n 0, 1) := by decide +kernel
theorem dJ6_bitCount_0f7a4_1 : decode cJ6_bitCount_0f7a4 1 = .ok (.iload_n 0, 1) := by decide +kernel
theorem dJ6_bitCount_0f7a4_2 : decode cJ6_bitCount_0f7a4 2 = .ok (.iconst 1, 1) := by decide +kernel
theorem dJ6_bitCount_0f7a4_3 : decode cJ6_bitCount_0f7a4 3 = .ok (.iushr, 1) := by decide +kernel
theorem dJ6_bitCount_0f7a4_4 : decode cJ6_bitCount_0f7a4 4 = .ok (.ldc_w 265, 3) := by decide +kernel
theorem dJ6_bitCount_0f7a4_7 : decode cJ6_bitCount_0f7a4 7 = .ok (.iand, 1) := by decide +kernel
theorem dJ6_bitCount_0f7a4_8 : decode cJ6_bitCount_0f7a4 8 = .ok (.isub, 1) := by decide +kernel
theorem dJ6_bitCount_0f7a4_9 : decode cJ6_bitCount_0f7a4 9 = .ok (.istore_n 0, 1) := by decide +kernel
theorem dJ6_bitCount_0f7a4_10 : decode cJ6_bitCount_0f7a4 10 = .ok (.iload_n 0, 1) := by decide +kernel
theorem dJ6_bitCount_0f7a4_11 : decode cJ6_bitCount_0f7a4 11 = .ok (.ldc_w 266, 3) := by decide +kernel
theorem dJ6_bitCount_0f7a4_14 : decode cJ6_bitCount_0f7a4 14 = .ok (.iand, 1) := by decide +kernel
theorem dJ6_bitCount_0f7a4_15 : decode cJ6_bitCount_0f7a4 15 = .ok (.iload_n 0, 1) := by decide +kernel
theorem dJ6_bitCount_0f7a4_16 : decode cJ6_bitCount_0f7a4 16 = .ok (.iconst 2, 1) := by decide +kernel
theorem dJ6_bitCount_0f7a4_17 : decode cJ6_bitCount_0f7a4 17 = .ok (.iushr, 1) := by decide +kernel
theorem dJ6_bitCount_0f7a4_18 : decode cJ6_bitCount_0f7a4 18 = .ok (.ldc_w 266, 3) := by decide +kernel
theorem dJ6_bitCount_0f7a4_21 : decode cJ6_bitCount_0f7a4 21 = .ok (.iand, 1) := by decide +kernel
theorem dJ6_bitCount_0f7a4_22 : decode cJ6_bitCount_0f7a4 22 = .ok (.iadd, 1) := by decide +kernel
theorem dJ6_bitCount_0f7a4_23 : decode cJ6_bitCount_0f7a4 23 = .ok (.istore_n 0, 1) := by decide +kernel
theorem dJ6_bitCount_0f7a4_24 : decode cJ6_bitCount_0f7a4 24 = .ok (.iload_n 0, 1) := by decide +kernel
theorem dJ6_bitCount_0f7a4_25 : decode cJ6_bitCount_0f7a4 25 = .ok (.iload_n 0, 1) := by decide +kernel
theorem dJ6_bitCount_0f7a4_26 : decode cJ6_bitCount_0f7a4 26 = .ok (.iconst 4, 1) := by decide +kernel
theorem dJ6_bitCount_0f7a4_27 : decode cJ6_bitCount_0f7a4 27 = .ok (.iushr, 1) := by decide +kernel
theorem dJ6_bitCount_0f7a4_28 : decode cJ6_bitCount_0f7a4 28 = .ok (.iadd, 1) := by decide +kernel
theorem dJ6_bitCount_0f7a4_29 : decode cJ6_bitCount_0f7a4 29 = .ok (.ldc_w 267, 3) := by decide +kernel
theorem dJ6_bitCount_0f7a4_32 : decode cJ6_bitCount_0f7a4 32 = .ok (.iand, 1) := by decide +kernel
theorem dJ6_bitCount_0f7a4_33 : decode cJ6_bitCount_0f7a4 33 = .ok (.istore_n 0, 1) := by decide +kernel
theorem dJ6_bitCount_0f7a4_34 : decode cJ6_bitCount_0f7a4 34 = .ok (.iload_n 0, 1) := by decide +kernel
theorem dJ6_bitCount_0f7a4_35 : decode cJ6_bitCount_0f7a4 35 = .ok (.iload_n 0, 1) := by decide +kernel
theorem dJ6_bitCount_0f7a4_36 : decode cJ6_bitCount_0f7a4 36 = .ok (.bipush 8, 2) := by decide +kernel
theorem dJ6_bitCount_0f7a4_38 : decode cJ6_bitCount_0f7a4 38 = .ok (.iushr, 1) := by decide +kernel
theorem dJ6_bitCount_0f7a4_39 : decode cJ6_bitCount_0f7a4 39 = .ok (.iadd, 1) := by decide +kernel
theorem dJ6_bitCount_0f7a4_40 : decode cJ6_bitCount_0f7a4 40 = .ok (.istore_n 0, 1) := by decide +kernel
theorem dJ6_bitCount_0f7a4_41 : decode cJ6_bitCount_0f7a4 41 = .ok (.iload_n 0, 1) := by decide +kernel
theorem dJ6_bitCount_0f7a4_42 : decode cJ6_bitCount_0f7a4 42 = .ok (.iload_n 0, 1) := by decide +kernel
theorem dJ6_bitCount_0f7a4_43 : decode cJ6_bitCount_0f7a4 43 = .ok (.bipush 16, 2) := by decide +kernel
theorem dJ6_bitCount_0f7a4_45 : decode cJ6_bitCount_0f7a4 45 = .ok (.iushr, 1) := by decide +kernel
theorem dJ6_bitCount_0f7a4_46 : decode cJ6_bitCount_0f7a4 46 = .ok (.iadd, 1) := by decide +kernel
theorem dJ6_bitCount_0f7a4_47 : decode cJ6_bitCount_0f7a4 47 = .ok (.istore_n 0, 1) := by decide +kernel
theorem dJ6_bitCount_0f7a4_48 : decode cJ6_bitCount_0f7a4 48 = .ok (.iload_n 0, 1) := by decide +kernel
theorem dJ6_bitCount_0f7a4_49 : decode cJ6_bitCount_0f7a4 49 = .ok (.bipush 63, 2) := by decide +kernel
theorem dJ6_bitCount_0f7a4_51 : decode cJ6_bitCount_0f7a4 51 = .ok (.iand, 1) := by decide +kernel
theorem dJ6_bitCount_0f7a4_52 : decode cJ6_bitCount_0f7a4 52 = .ok (.ireturn, 1) := by decide +kernel
theorem dJ9_max_7cf53_0 : decode cJ9_max_7cf53 0 = .ok (.iload_n 0, 1) := by decide +kernel
theorem dJ9_max_7cf53_1 : decode cJ9_max_7cf53 1 = .ok (.iload_n 1, 1) := by decide +kernel
theorem dJ9_max_7cf53_2 : decode cJ9_max_7cf53 2 = .ok (.if_icmp .lt 7, 3) := by decide +kernel
theorem dJ9_max_7cf53_5 : decode cJ9_max_7cf53 5 = .ok (.iload_n 0, 1) := by decide +kernel
theorem dJ9_max_7cf53_6 : decode cJ9_max_7cf53 6 = .ok (.goto 4, 3) := by decide +kernel
theorem dJ9_max_7cf53_9 : decode cJ9_max_7cf53 9 = .ok (.iload_n 1, 1) := by decide +kernel
theorem dJ9_max_7cf53_10 : decode cJ9_max_7cf53 10 = .ok (.ireturn, 1) := by decide +kernel
theorem dJ9_min_7cf53_0 : decode cJ9_min_7cf53 0 = .ok (.iload_n 0, 1) := by decide +kernel
theorem dJ9_min_7cf53_1 : decode cJ9_min_7cf53 1 = .ok (.iload_n 1, 1) := by decide +kernel
theorem dJ9_min_7cf53_2 : decode cJ9_min_7cf53 2 = .ok (.if_icmp .gt 7, 3) := by decide +kernel
theorem dJ9_min_7cf53_5 : decode cJ9_min_7cf53 5 = .ok (.iload_n 0, 1) := by decide +kernel
theorem dJ9_min_7cf53_6 : decode cJ9_min_7cf53 6 = .ok (.goto 4, 3) := by decide +kernel
theorem dJ9_min_7cf53_9 : decode cJ9_min_7cf53 9 = .ok (.iload_n 1, 1) := by decide +kernel
theorem dJ9_min_7cf53_10 : decode cJ9_min_7cf53 10 = .ok (.ireturn, 1) := by decide +kernel
theorem dJ0_length_8abf5_0 : decode cJ0_length_8abf5 0 = .ok (.aload_n 0, 1) := by decide +kernel
theorem dJ0_length_8abf5_1 : decode cJ0_length_8abf5 1 = .ok (.getfield 9, 3) := by decide +kernel
theorem dJ0_length_8abf5_4 : decode cJ0_length_8abf5 4 = .ok (.arraylength, 1) := by decide +kernel
theorem dJ0_length_8abf5_5 : decode cJ0_length_8abf5 5 = .ok (.aload_n 0, 1) := by decide +kernel
theorem dJ0_length_8abf5_6 : decode cJ0_length_8abf5 6 = .ok (.invokevirtual 335, 3) := by decide +kernel
theorem dJ0_length_8abf5_9 : decode cJ0_length_8abf5 9 = .ok (.ishr, 1) := by decide +kernel
theorem dJ0_length_8abf5_10 : decode cJ0_length_8abf5 10 = .ok (.ireturn, 1) := by decide +kernel
theorem dJ0_charAt_5068e_0 : decode cJ0_charAt_5068e 0 = .ok (.aload_n 0, 1) := by decide +kernel
theorem dJ0_charAt_5068e_1 : decode cJ0_charAt_5068e 1 = .ok (.invokevirtual 492, 3) := by decide +kernel
theorem dJ0_charAt_5068e_4 : decode cJ0_charAt_5068e 4 = .ok (.ifCond .eq 12, 3) := by decide +kernel
theorem dJ0_charAt_5068e_7 : decode cJ0_charAt_5068e 7 = .ok (.aload_n 0, 1) := by decide +kernel
theorem dJ0_charAt_5068e_8 : decode cJ0_charAt_5068e 8 = .ok (.getfield 9, 3) := by decide +kernel
theorem dJ0_charAt_5068e_11 : decode cJ0_charAt_5068e 11 = .ok (.iload_n 1, 1) := by decide +kernel
theorem dJ0_charAt_5068e_12 : decode cJ0_charAt_5068e 12 = .ok (.invokestatic 495, 3) := by decide +kernel
theorem dJ0_charAt_5068e_15 : decode cJ0_charAt_5068e 15 = .ok (.ireturn, 1) := by decide +kernel
theorem dJ0_charAt_5068e_16 : decode cJ0_charAt_5068e 16 = .ok (.aload_n 0, 1) := by decide +kernel
theorem dJ0_charAt_5068e_17 : decode cJ0_charAt_5068e 17 = .ok (.getfield 9, 3) := by decide +kernel
theorem dJ0_charAt_5068e_20 : decode cJ0_charAt_5068e 20 = .ok (.iload_n 1, 1) := by decide +kernel
theorem dJ0_charAt_5068e_21 : decode cJ0_charAt_5068e 21 = .ok (.invokestatic 498, 3) := by decide +kernel
theorem dJ0_charAt_5068e_24 : decode cJ0_charAt_5068e 24 = .ok (.ireturn, 1) := by decide +kernel
theorem dJ0_coder_7d493_0 : decode cJ0_coder_7d493 0 = .ok (.getstatic 38, 3) := by decide +kernel
theorem dJ0_coder_7d493_3 : decode cJ0_coder_7d493 3 = .ok (.ifCond .eq 10, 3) := by decide +kernel
theorem dJ0_coder_7d493_6 : decode cJ0_coder_7d493 6 = .ok (.aload_n 0, 1) := by decide +kernel
theorem dJ0_coder_7d493_7 : decode cJ0_coder_7d493 7 = .ok (.getfield 15, 3) := by decide +kernel
theorem dJ0_coder_7d493_10 : decode cJ0_coder_7d493 10 = .ok (.goto 4, 3) := by decide +kernel
theorem dJ0_coder_7d493_13 : decode cJ0_coder_7d493 13 = .ok (.iconst 1, 1) := by decide +kernel
theorem dJ0_coder_7d493_14 : decode cJ0_coder_7d493 14 = .ok (.ireturn, 1) := by decide +kernel
theorem dJ0_isLatin1_aae02_0 : decode cJ0_isLatin1_aae02 0 = .ok (.getstatic 38, 3) := by decide +kernel
theorem dJ0_isLatin1_aae02_3 : decode cJ0_isLatin1_aae02 3 = .ok (.ifCond .eq 14, 3) := by decide +kernel
theorem dJ0_isLatin1_aae02_6 : decode cJ0_isLatin1_aae02 6 = .ok (.aload_n 0, 1) := by decide +kernel
theorem dJ0_isLatin1_aae02_7 : decode cJ0_isLatin1_aae02 7 = .ok (.getfield 15, 3) := by decide +kernel
theorem dJ0_isLatin1_aae02_10 : decode cJ0_isLatin1_aae02 10 = .ok (.ifCond .ne 7, 3) := by decide +kernel
theorem dJ0_isLatin1_aae02_13 : decode cJ0_isLatin1_aae02 13 = .ok (.iconst 1, 1) := by decide +kernel
theorem dJ0_isLatin1_aae02_14 : decode cJ0_isLatin1_aae02 14 = .ok (.goto 4, 3) := by decide +kernel
theorem dJ0_isLatin1_aae02_17 : decode cJ0_isLatin1_aae02 17 = .ok (.iconst 0, 1) := by decide +kernel
theorem dJ0_isLatin1_aae02_18 : decode cJ0_isLatin1_aae02 18 = .ok (.ireturn, 1) := by decide +kernel
theorem dJ0_checkIndex_df160_0 : decode cJ0_checkIndex_df160 0 = .ok (.iload_n 0, 1) := by decide +kernel
theorem dJ0_checkIndex_df160_1 : decode cJ0_checkIndex_df160 1 = .ok (.iload_n 1, 1) := by decide +kernel
theorem dJ0_checkIndex_df160_2 : decode cJ0_checkIndex_df160 2 = .ok (.getstatic 1053, 3) := by decide +kernel
theorem dJ0_checkIndex_df160_5 : decode cJ0_checkIndex_df160 5 = .ok (.invokestatic 1059, 3) := by decide +kernel
theorem dJ0_checkIndex_df160_8 : decode cJ0_checkIndex_df160 8 = .ok (.pop, 1) := by decide +kernel
theorem dJ0_checkIndex_df160_9 : decode cJ0_checkIndex_df160 9 = .ok (.return_, 1) := by decide +kernel
theorem dJ1_charAt_3b067_0 : decode cJ1_charAt_3b067 0 = .ok (.iload_n 1, 1) := by decide +kernel
theorem dJ1_charAt_3b067_1 : decode cJ1_charAt_3b067 1 = .ok (.aload_n 0, 1) := by decide +kernel
theorem dJ1_charAt_3b067_2 : decode cJ1_charAt_3b067 2 = .ok (.arraylength, 1) := by decide +kernel
theorem dJ1_charAt_3b067_3 : decode cJ1_charAt_3b067 3 = .ok (.invokestatic 9, 3) := by decide +kernel
theorem dJ1_charAt_3b067_6 : decode cJ1_charAt_3b067 6 = .ok (.aload_n 0, 1) := by decide +kernel
theorem dJ1_charAt_3b067_7 : decode cJ1_charAt_3b067 7 = .ok (.iload_n 1, 1) := by decide +kernel
theorem dJ1_charAt_3b067_8 : decode cJ1_charAt_3b067 8 = .ok (.baload, 1) := by decide +kernel
theorem dJ1_charAt_3b067_9 : decode cJ1_charAt_3b067 9 = .ok (.sipush 255, 3) := by decide +kernel
theorem dJ1_charAt_3b067_12 : decode cJ1_charAt_3b067 12 = .ok (.iand, 1) := by decide +kernel
theorem dJ1_charAt_3b067_13 : decode cJ1_charAt_3b067 13 = .ok (.i2c, 1) := by decide +kernel
theorem dJ1_charAt_3b067_14 : decode cJ1_charAt_3b067 14 = .ok (.ireturn, 1) := by decide +kernel
theorem dJ2_getChar_3b067_0 : decode cJ2_getChar_3b067 0 = .ok (.getstatic 44, 3) := by decide +kernel
theorem dJ2_getChar_3b067_3 : decode cJ2_getChar_3b067 3 = .ok (.ifCond .ne 25, 3) := by decide +kernel
theorem dJ2_getChar_3b067_6 : decode cJ2_getChar_3b067 6 = .ok (.iload_n 1, 1) := by decide +kernel
theorem dJ2_getChar_3b067_7 : decode cJ2_getChar_3b067 7 = .ok (.ifCond .lt 11, 3) := by decide +kernel
theorem dJ2_getChar_3b067_10 : decode cJ2_getChar_3b067 10 = .ok (.iload_n 1, 1) := by decide +kernel
theorem dJ2_getChar_3b067_11 : decode cJ2_getChar_3b067 11 = .ok (.aload_n 0, 1) := by decide +kernel
theorem dJ2_getChar_3b067_12 : decode cJ2_getChar_3b067 12 = .ok (.invokestatic 48, 3) := by decide +kernel
theorem dJ2_getChar_3b067_15 : decode cJ2_getChar_3b067 15 = .ok (.if_icmp .lt 13, 3) := by decide +kernel
theorem dJ2_getChar_3b067_18 : decode cJ2_getChar_3b067 18 = .ok (.new 52, 3) := by decide +kernel
theorem dJ2_getChar_3b067_21 : decode cJ2_getChar_3b067 21 = .ok (.dup, 1) := by decide +kernel
theorem dJ2_getChar_3b067_22 : decode cJ2_getChar_3b067 22 = .ok (.ldc 54, 2) := by decide +kernel
theorem dJ2_getChar_3b067_24 : decode cJ2_getChar_3b067 24 = .ok (.invokespecial 56, 3) := by decide +kernel
theorem dJ2_getChar_3b067_27 : decode cJ2_getChar_3b067 27 = .ok (.athrow, 1) := by decide +kernel
theorem dJ2_getChar_3b067_28 : decode cJ2_getChar_3b067 28 = .ok (.iload_n 1, 1) := by decide +kernel
theorem dJ2_getChar_3b067_29 : decode cJ2_getChar_3b067 29 = .ok (.iconst 1, 1) := by decide +kernel
theorem dJ2_getChar_3b067_30 : decode cJ2_getChar_3b067 30 = .ok (.ishl, 1) := by decide +kernel
theorem dJ2_getChar_3b067_31 : decode cJ2_getChar_3b067 31 = .ok (.istore_n 1, 1) := by decide +kernel
theorem dJ2_getChar_3b067_32 : decode cJ2_getChar_3b067 32 = .ok (.aload_n 0, 1) := by decide +kernel
theorem dJ2_getChar_3b067_33 : decode cJ2_getChar_3b067 33 = .ok (.iload_n 1, 1) := by decide +kernel
theorem dJ2_getChar_3b067_34 : decode cJ2_getChar_3b067 34 = .ok (.iinc 1 1, 3) := by decide +kernel
theorem dJ2_getChar_3b067_37 : decode cJ2_getChar_3b067 37 = .ok (.baload, 1) := by decide +kernel
theorem dJ2_getChar_3b067_38 : decode cJ2_getChar_3b067 38 = .ok (.sipush 255, 3) := by decide +kernel
theorem dJ2_getChar_3b067_41 : decode cJ2_getChar_3b067 41 = .ok (.iand, 1) := by decide +kernel
theorem dJ2_getChar_3b067_42 : decode cJ2_getChar_3b067 42 = .ok (.getstatic 59, 3) := by decide +kernel
theorem dJ2_getChar_3b067_45 : decode cJ2_getChar_3b067 45 = .ok (.ishl, 1) := by decide +kernel
theorem dJ2_getChar_3b067_46 : decode cJ2_getChar_3b067 46 = .ok (.aload_n 0, 1) := by decide +kernel
theorem dJ2_getChar_3b067_47 : decode cJ2_getChar_3b067 47 = .ok (.iload_n 1, 1) := by decide +kernel
theorem dJ2_getChar_3b067_48 : decode cJ2_getChar_3b067 48 = .ok (.baload, 1) := by decide +kernel
theorem dJ2_getChar_3b067_49 : decode cJ2_getChar_3b067 49 = .ok (.sipush 255, 3) := by decide +kernel
theorem dJ2_getChar_3b067_52 : decode cJ2_getChar_3b067 52 = .ok (.iand, 1) := by decide +kernel
theorem dJ2_getChar_3b067_53 : decode cJ2_getChar_3b067 53 = .ok (.getstatic 63, 3) := by decide +kernel
theorem dJ2_getChar_3b067_56 : decode cJ2_getChar_3b067 56 = .ok (.ishl, 1) := by decide +kernel
theorem dJ2_getChar_3b067_57 : decode cJ2_getChar_3b067 57 = .ok (.ior, 1) := by decide +kernel
theorem dJ2_getChar_3b067_58 : decode cJ2_getChar_3b067 58 = .ok (.i2c, 1) := by decide +kernel
theorem dJ2_getChar_3b067_59 : decode cJ2_getChar_3b067 59 = .ok (.ireturn, 1) := by decide +kernel
theorem dJ2_length_9d52b_0 : decode cJ2_length_9d52b 0 = .ok (.aload_n 0, 1) := by decide +kernel
theorem dJ2_length_9d52b_1 : decode cJ2_length_9d52b 1 = .ok (.arraylength, 1) := by decide +kernel
theorem dJ2_length_9d52b_2 : decode cJ2_length_9d52b 2 = .ok (.iconst 1, 1) := by decide +kernel
theorem dJ2_length_9d52b_3 : decode cJ2_length_9d52b 3 = .ok (.ishr, 1) := by decide +kernel
theorem dJ2_length_9d52b_4 : decode cJ2_length_9d52b 4 = .ok (.ireturn, 1) := by decide +kernel
theorem dJ2_charAt_3b067_0 : decode cJ2_charAt_3b067 0 = .ok (.iload_n 1, 1) := by decide +kernel
theorem dJ2_charAt_3b067_1 : decode cJ2_charAt_3b067 1 = .ok (.aload_n 0, 1) := by decide +kernel
theorem dJ2_charAt_3b067_2 : decode cJ2_charAt_3b067 2 = .ok (.invokestatic 67, 3) := by decide +kernel
theorem dJ2_charAt_3b067_5 : decode cJ2_charAt_3b067 5 = .ok (.aload_n 0, 1) := by decide +kernel
theorem dJ2_charAt_3b067_6 : decode cJ2_charAt_3b067 6 = .ok (.iload_n 1, 1) := by decide +kernel
theorem dJ2_charAt_3b067_7 : decode cJ2_charAt_3b067 7 = .ok (.invokestatic 71, 3) := by decide +kernel
theorem dJ2_charAt_3b067_10 : decode cJ2_charAt_3b067 10 = .ok (.ireturn, 1) := by decide +kernel
theorem dJ2_checkIndex_2214a_0 : decode cJ2_checkIndex_2214a 0 = .ok (.iload_n 0, 1) := by decide +kernel
theorem dJ2_checkIndex_2214a_1 : decode cJ2_checkIndex_2214a 1 = .ok (.aload_n 1, 1) := by decide +kernel
theorem dJ2_checkIndex_2214a_2 : decode cJ2_checkIndex_2214a 2 = .ok (.invokestatic 48, 3) := by decide +kernel
theorem dJ2_checkIndex_2214a_5 : decode cJ2_checkIndex_2214a 5 = .ok (.invokestatic 414, 3) := by decide +kernel
theorem dJ2_checkIndex_2214a_8 : decode cJ2_checkIndex_2214a 8 = .ok (.return_, 1) := by decide +kernel
theorem dJ7_fill_53178_0 : decode cJ7_fill_53178 0 = .ok (.iconst 0, 1) := by decide +kernel
theorem dJ7_fill_53178_1 : decode cJ7_fill_53178 1 = .ok (.istore_n 2, 1) := by decide +kernel
theorem dJ7_fill_53178_2 : decode cJ7_fill_53178 2 = .ok (.aload_n 0, 1) := by decide +kernel
theorem dJ7_fill_53178_3 : decode cJ7_fill_53178 3 = .ok (.arraylength, 1) := by decide +kernel
theorem dJ7_fill_53178_4 : decode cJ7_fill_53178 4 = .ok (.istore_n 3, 1) := by decide +kernel
theorem dJ7_fill_53178_5 : decode cJ7_fill_53178 5 = .ok (.iload_n 2, 1) := by decide +kernel
theorem dJ7_fill_53178_6 : decode cJ7_fill_53178 6 = .ok (.iload_n 3, 1) := by decide +kernel
theorem dJ7_fill_53178_7 : decode cJ7_fill_53178 7 = .ok (.if_icmp .ge 13, 3) := by decide +kernel
theorem dJ7_fill_53178_10 : decode cJ7_fill_53178 10 = .ok (.aload_n 0, 1) := by decide +kernel
theorem dJ7_fill_53178_11 : decode cJ7_fill_53178 11 = .ok (.iload_n 2, 1) := by decide +kernel
theorem dJ7_fill_53178_12 : decode cJ7_fill_53178 12 = .ok (.iload_n 1, 1) := by decide +kernel
theorem dJ7_fill_53178_13 : decode cJ7_fill_53178 13 = .ok (.iastore, 1) := by decide +kernel
theorem dJ7_fill_53178_14 : decode cJ7_fill_53178 14 = .ok (.iinc 2 1, 3) := by decide +kernel
theorem dJ7_fill_53178_17 : decode cJ7_fill_53178 17 = .ok (.goto (-12), 3) := by decide +kernel
theorem dJ7_fill_53178_20 : decode cJ7_fill_53178 20 = .ok (.return_, 1) := by decide +kernel
theorem dJ3_checkIndex_8e157_0 : decode cJ3_checkIndex_8e157 0 = .ok (.iload_n 0, 1) := by decide +kernel
theorem dJ3_checkIndex_8e157_1 : decode cJ3_checkIndex_8e157 1 = .ok (.ifCond .lt 8, 3) := by decide +kernel
theorem dJ3_checkIndex_8e157_4 : decode cJ3_checkIndex_8e157 4 = .ok (.iload_n 0, 1) := by decide +kernel
theorem dJ3_checkIndex_8e157_5 : decode cJ3_checkIndex_8e157 5 = .ok (.iload_n 1, 1) := by decide +kernel
theorem dJ3_checkIndex_8e157_6 : decode cJ3_checkIndex_8e157 6 = .ok (.if_icmp .lt 10, 3) := by decide +kernel
theorem dJ3_checkIndex_8e157_9 : decode cJ3_checkIndex_8e157 9 = .ok (.aload_n 2, 1) := by decide +kernel
theorem dJ3_checkIndex_8e157_10 : decode cJ3_checkIndex_8e157 10 = .ok (.iload_n 0, 1) := by decide +kernel
theorem dJ3_checkIndex_8e157_11 : decode cJ3_checkIndex_8e157 11 = .ok (.iload_n 1, 1) := by decide +kernel
theorem dJ3_checkIndex_8e157_12 : decode cJ3_checkIndex_8e157 12 = .ok (.invokestatic 95, 3) := by decide +kernel
theorem dJ3_checkIndex_8e157_15 : decode cJ3_checkIndex_8e157 15 = .ok (.athrow, 1) := by decide +kernel
theorem dJ3_checkIndex_8e157_16 : decode cJ3_checkIndex_8e157 16 = .ok (.iload_n 0, 1) := by decide +kernel
theorem dJ3_checkIndex_8e157_17 : decode cJ3_checkIndex_8e157 17 = .ok (.ireturn, 1) := by decide +kernel
theorem dL_law_0 : decode cL_law 0 = .ok (.new 7, 3) := by decide +kernel
theorem dL_law_3 : decode cL_law 3 = .ok (.dup, 1) := by decide +kernel
theorem dL_law_4 : decode cL_law 4 = .ok (.invokespecial 9, 3) := by decide +kernel
theorem dL_law_7 : decode cL_law 7 = .ok (.astore_n 1, 1) := by decide +kernel
theorem dL_law_8 : decode cL_law 8 = .ok (.new 10, 3) := by decide +kernel
theorem dL_law_11 : decode cL_law 11 = .ok (.dup, 1) := by decide +kernel
theorem dL_law_12 : decode cL_law 12 = .ok (.invokespecial 12, 3) := by decide +kernel
theorem dL_law_15 : decode cL_law 15 = .ok (.astore_n 2, 1) := by decide +kernel
theorem dL_law_16 : decode cL_law 16 = .ok (.iconst 0, 1) := by decide +kernel
theorem dL_law_17 : decode cL_law 17 = .ok (.istore_n 3, 1) := by decide +kernel
theorem dL_law_18 : decode cL_law 18 = .ok (.iload_n 3, 1) := by decide +kernel
theorem dL_law_19 : decode cL_law 19 = .ok (.aload_n 0, 1) := by decide +kernel
theorem dL_law_20 : decode cL_law 20 = .ok (.arraylength, 1) := by decide +kernel
theorem dL_law_21 : decode cL_law 21 = .ok (.bipush 6, 2) := by decide +kernel
theorem dL_law_23 : decode cL_law 23 = .ok (.isub, 1) := by decide +kernel
theorem dL_law_24 : decode cL_law 24 = .ok (.if_icmp .gt 844, 3) := by decide +kernel
theorem dL_law_27 : decode cL_law 27 = .ok (.aload_n 0, 1) := by decide +kernel
theorem dL_law_28 : decode cL_law 28 = .ok (.iload_n 3, 1) := by decide +kernel
theorem dL_law_29 : decode cL_law 29 = .ok (.iaload, 1) := by decide +kernel
theorem dL_law_30 : decode cL_law 30 = .ok (.bipush 31, 2) := by decide +kernel
theorem dL_law_32 : decode cL_law 32 = .ok (.iand, 1) := by decide +kernel
theorem dL_law_33 : decode cL_law 33 = .ok (.tableswitch 829 0 23 #[111, 174, 197, 210, 223, 256, 289, 322, 355, 388, 421, 454, 467, 490, 513, 536, 569, 618, 641, 684, 707, 740, 773, 806], 111) := by decide +kernel
theorem dL_law_144 : decode cL_law 144 = .ok (.aload_n 1, 1) := by decide +kernel
theorem dL_law_145 : decode cL_law 145 = .ok (.aload_n 0, 1) := by decide +kernel
theorem dL_law_146 : decode cL_law 146 = .ok (.iload_n 3, 1) := by decide +kernel
theorem dL_law_147 : decode cL_law 147 = .ok (.iconst 1, 1) := by decide +kernel
theorem dL_law_148 : decode cL_law 148 = .ok (.iadd, 1) := by decide +kernel
theorem dL_law_149 : decode cL_law 149 = .ok (.iaload, 1) := by decide +kernel
theorem dL_law_150 : decode cL_law 150 = .ok (.aload_n 0, 1) := by decide +kernel
theorem dL_law_151 : decode cL_law 151 = .ok (.iload_n 3, 1) := by decide +kernel
theorem dL_law_152 : decode cL_law 152 = .ok (.iconst 2, 1) := by decide +kernel
theorem dL_law_153 : decode cL_law 153 = .ok (.iadd, 1) := by decide +kernel
theorem dL_law_154 : decode cL_law 154 = .ok (.iaload, 1) := by decide +kernel
theorem dL_law_155 : decode cL_law 155 = .ok (.aload_n 0, 1) := by decide +kernel
theorem dL_law_156 : decode cL_law 156 = .ok (.iload_n 3, 1) := by decide +kernel
theorem dL_law_157 : decode cL_law 157 = .ok (.iconst 3, 1) := by decide +kernel
theorem dL_law_158 : decode cL_law 158 = .ok (.iadd, 1) := by decide +kernel
theorem dL_law_159 : decode cL_law 159 = .ok (.iaload, 1) := by decide +kernel
theorem dL_law_160 : decode cL_law 160 = .ok (.aload_n 0, 1) := by decide +kernel
theorem dL_law_161 : decode cL_law 161 = .ok (.iload_n 3, 1) := by decide +kernel
theorem dL_law_162 : decode cL_law 162 = .ok (.iconst 4, 1) := by decide +kernel
theorem dL_law_163 : decode cL_law 163 = .ok (.iadd, 1) := by decide +kernel
theorem dL_law_164 : decode cL_law 164 = .ok (.iaload, 1) := by decide +kernel
theorem dL_law_165 : decode cL_law 165 = .ok (.aload_n 0, 1) := by decide +kernel
theorem dL_law_166 : decode cL_law 166 = .ok (.iload_n 3, 1) := by decide +kernel
theorem dL_law_167 : decode cL_law 167 = .ok (.iconst 5, 1) := by decide +kernel
theorem dL_law_168 : decode cL_law 168 = .ok (.iadd, 1) := by decide +kernel
theorem dL_law_169 : decode cL_law 169 = .ok (.iaload, 1) := by decide +kernel
theorem dL_law_170 : decode cL_law 170 = .ok (.invokevirtual 13, 3) := by decide +kernel
theorem dL_law_173 : decode cL_law 173 = .ok (.aload_n 2, 1) := by decide +kernel
theorem dL_law_174 : decode cL_law 174 = .ok (.aload_n 0, 1) := by decide +kernel
theorem dL_law_175 : decode cL_law 175 = .ok (.iload_n 3, 1) := by decide +kernel
theorem dL_law_176 : decode cL_law 176 = .ok (.iconst 1, 1) := by decide +kernel
theorem dL_law_177 : decode cL_law 177 = .ok (.iadd, 1) := by decide +kernel
theorem dL_law_178 : decode cL_law 178 = .ok (.iaload, 1) := by decide +kernel
theorem dL_law_179 : decode cL_law 179 = .ok (.aload_n 0, 1) := by decide +kernel
theorem dL_law_180 : decode cL_law 180 = .ok (.iload_n 3, 1) := by decide +kernel
theorem dL_law_181 : decode cL_law 181 = .ok (.iconst 2, 1) := by decide +kernel
theorem dL_law_182 : decode cL_law 182 = .ok (.iadd, 1) := by decide +kernel
theorem dL_law_183 : decode cL_law 183 = .ok (.iaload, 1) := by decide +kernel
theorem dL_law_184 : decode cL_law 184 = .ok (.aload_n 0, 1) := by decide +kernel
theorem dL_law_185 : decode cL_law 185 = .ok (.iload_n 3, 1) := by decide +kernel
theorem dL_law_186 : decode cL_law 186 = .ok (.iconst 3, 1) := by decide +kernel
theorem dL_law_187 : decode cL_law 187 = .ok (.iadd, 1) := by decide +kernel
theorem dL_law_188 : decode cL_law 188 = .ok (.iaload, 1) := by decide +kernel
theorem dL_law_189 : decode cL_law 189 = .ok (.aload_n 0, 1) := by decide +kernel
theorem dL_law_190 : decode cL_law 190 = .ok (.iload_n 3, 1) := by decide +kernel
theorem dL_law_191 : decode cL_law 191 = .ok (.iconst 4, 1) := by decide +kernel
theorem dL_law_192 : decode cL_law 192 = .ok (.iadd, 1) := by decide +kernel
theorem dL_law_193 : decode cL_law 193 = .ok (.iaload, 1) := by decide +kernel
theorem dL_law_194 : decode cL_law 194 = .ok (.aload_n 0, 1) := by decide +kernel
theorem dL_law_195 : decode cL_law 195 = .ok (.iload_n 3, 1) := by decide +kernel
theorem dL_law_196 : decode cL_law 196 = .ok (.iconst 5, 1) := by decide +kernel
theorem dL_law_197 : decode cL_law 197 = .ok (.iadd, 1) := by decide +kernel
theorem dL_law_198 : decode cL_law 198 = .ok (.iaload, 1) := by decide +kernel
theorem dL_law_199 : decode cL_law 199 = .ok (.invokevirtual 17, 3) := by decide +kernel
theorem dL_law_202 : decode cL_law 202 = .ok (.if_icmp .eq 660, 3) := by decide +kernel
theorem dL_law_205 : decode cL_law 205 = .ok (.iconst 0, 1) := by decide +kernel
theorem dL_law_206 : decode cL_law 206 = .ok (.ireturn, 1) := by decide +kernel
theorem dL_law_207 : decode cL_law 207 = .ok (.aload_n 1, 1) := by decide +kernel
theorem dL_law_208 : decode cL_law 208 = .ok (.aload_n 0, 1) := by decide +kernel
theorem dL_law_209 : decode cL_law 209 = .ok (.iload_n 3, 1) := by decide +kernel
theorem dL_law_210 : decode cL_law 210 = .ok (.iconst 1, 1) := by decide +kernel
theorem dL_law_211 : decode cL_law 211 = .ok (.iadd, 1) := by decide +kernel
theorem dL_law_212 : decode cL_law 212 = .ok (.iaload, 1) := by decide +kernel
theorem dL_law_213 : decode cL_law 213 = .ok (.invokevirtual 18, 3) := by decide +kernel
theorem dL_law_216 : decode cL_law 216 = .ok (.aload_n 2, 1) := by decide +kernel
theorem dL_law_217 : decode cL_law 217 = .ok (.aload_n 0, 1) := by decide +kernel
theorem dL_law_218 : decode cL_law 218 = .ok (.iload_n 3, 1) := by decide +kernel
theorem dL_law_219 : decode cL_law 219 = .ok (.iconst 1, 1) := by decide +kernel
theorem dL_law_220 : decode cL_law 220 = .ok (.iadd, 1) := by decide +kernel
theorem dL_law_221 : decode cL_law 221 = .ok (.iaload, 1) := by decide +kernel
theorem dL_law_222 : decode cL_law 222 = .ok (.invokevirtual 22, 3) := by decide +kernel
theorem dL_law_225 : decode cL_law 225 = .ok (.if_icmp .eq 637, 3) := by decide +kernel
theorem dL_law_228 : decode cL_law 228 = .ok (.iconst 0, 1) := by decide +kernel
theorem dL_law_229 : decode cL_law 229 = .ok (.ireturn, 1) := by decide +kernel
theorem dL_law_230 : decode cL_law 230 = .ok (.aload_n 1, 1) := by decide +kernel
theorem dL_law_231 : decode cL_law 231 = .ok (.invokevirtual 23, 3) := by decide +kernel
theorem dL_law_234 : decode cL_law 234 = .ok (.aload_n 2, 1) := by decide +kernel
theorem dL_law_235 : decode cL_law 235 = .ok (.invokevirtual 27, 3) := by decide +kernel
theorem dL_law_238 : decode cL_law 238 = .ok (.if_icmp .eq 624, 3) := by decide +kernel
theorem dL_law_241 : decode cL_law 241 = .ok (.iconst 0, 1) := by decide +kernel
theorem dL_law_242 : decode cL_law 242 = .ok (.ireturn, 1) := by decide +kernel
theorem dL_law_243 : decode cL_law 243 = .ok (.aload_n 1, 1) := by decide +kernel
theorem dL_law_244 : decode cL_law 244 = .ok (.invokevirtual 28, 3) := by decide +kernel
theorem dL_law_247 : decode cL_law 247 = .ok (.aload_n 2, 1) := by decide +kernel
theorem dL_law_248 : decode cL_law 248 = .ok (.invokevirtual 31, 3) := by decide +kernel
theorem dL_law_251 : decode cL_law 251 = .ok (.if_icmp .eq 611, 3) := by decide +kernel
theorem dL_law_254 : decode cL_law 254 = .ok (.iconst 0, 1) := by decide +kernel
theorem dL_law_255 : decode cL_law 255 = .ok (.ireturn, 1) := by decide +kernel
theorem dL_law_256 : decode cL_law 256 = .ok (.aload_n 1, 1) := by decide +kernel
theorem dL_law_257 : decode cL_law 257 = .ok (.aload_n 0, 1) := by decide +kernel
theorem dL_law_258 : decode cL_law 258 = .ok (.iload_n 3, 1) := by decide +kernel
theorem dL_law_259 : decode cL_law 259 = .ok (.iconst 1, 1) := by decide +kernel
theorem dL_law_260 : decode cL_law 260 = .ok (.iadd, 1) := by decide +kernel
theorem dL_law_261 : decode cL_law 261 = .ok (.iaload, 1) := by decide +kernel
theorem dL_law_262 : decode cL_law 262 = .ok (.aload_n 0, 1) := by decide +kernel
theorem dL_law_263 : decode cL_law 263 = .ok (.iload_n 3, 1) := by decide +kernel
theorem dL_law_264 : decode cL_law 264 = .ok (.iconst 2, 1) := by decide +kernel
theorem dL_law_265 : decode cL_law 265 = .ok (.iadd, 1) := by decide +kernel
theorem dL_law_266 : decode cL_law 266 = .ok (.iaload, 1) := by decide +kernel
theorem dL_law_267 : decode cL_law 267 = .ok (.invokevirtual 32, 3) := by decide +kernel
theorem dL_law_270 : decode cL_law 270 = .ok (.aload_n 2, 1) := by decide +kernel
theorem dL_law_271 : decode cL_law 271 = .ok (.aload_n 0, 1) := by decide +kernel
theorem dL_law_272 : decode cL_law 272 = .ok (.iload_n 3, 1) := by decide +kernel
theorem dL_law_273 : decode cL_law 273 = .ok (.iconst 1, 1) := by decide +kernel
theorem dL_law_274 : decode cL_law 274 = .ok (.iadd, 1) := by decide +kernel
theorem dL_law_275 : decode cL_law 275 = .ok (.iaload, 1) := by decide +kernel
theorem dL_law_276 : decode cL_law 276 = .ok (.aload_n 0, 1) := by decide +kernel
theorem dL_law_277 : decode cL_law 277 = .ok (.iload_n 3, 1) := by decide +kernel
theorem dL_law_278 : decode cL_law 278 = .ok (.iconst 2, 1) := by decide +kernel
theorem dL_law_279 : decode cL_law 279 = .ok (.iadd, 1) := by decide +kernel
theorem dL_law_280 : decode cL_law 280 = .ok (.iaload, 1) := by decide +kernel
theorem dL_law_281 : decode cL_law 281 = .ok (.invokevirtual 36, 3) := by decide +kernel
theorem dL_law_284 : decode cL_law 284 = .ok (.if_icmp .eq 578, 3) := by decide +kernel
theorem dL_law_287 : decode cL_law 287 = .ok (.iconst 0, 1) := by decide +kernel
theorem dL_law_288 : decode cL_law 288 = .ok (.ireturn, 1) := by decide +kernel
theorem dL_law_289 : decode cL_law 289 = .ok (.aload_n 1, 1) := by decide +kernel
theorem dL_law_290 : decode cL_law 290 = .ok (.aload_n 0, 1) := by decide +kernel
theorem dL_law_291 : decode cL_law 291 = .ok (.iload_n 3, 1) := by decide +kernel
theorem dL_law_292 : decode cL_law 292 = .ok (.iconst 1, 1) := by decide +kernel
theorem dL_law_293 : decode cL_law 293 = .ok (.iadd, 1) := by decide +kernel
theorem dL_law_294 : decode cL_law 294 = .ok (.iaload, 1) := by decide +kernel
theorem dL_law_295 : decode cL_law 295 = .ok (.aload_n 0, 1) := by decide +kernel
theorem dL_law_296 : decode cL_law 296 = .ok (.iload_n 3, 1) := by decide +kernel
theorem dL_law_297 : decode cL_law 297 = .ok (.iconst 2, 1) := by decide +kernel
theorem dL_law_298 : decode cL_law 298 = .ok (.iadd, 1) := by decide +kernel
theorem dL_law_299 : decode cL_law 299 = .ok (.iaload, 1) := by decide +kernel
theorem dL_law_300 : decode cL_law 300 = .ok (.invokevirtual 37, 3) := by decide +kernel
theorem dL_law_303 : decode cL_law 303 = .ok (.aload_n 2, 1) := by decide +kernel
theorem dL_law_304 : decode cL_law 304 = .ok (.aload_n 0, 1) := by decide +kernel
theorem dL_law_305 : decode cL_law 305 = .ok (.iload_n 3, 1) := by decide +kernel
theorem dL_law_306 : decode cL_law 306 = .ok (.iconst 1, 1) := by decide +kernel
theorem dL_law_307 : decode cL_law 307 = .ok (.iadd, 1) := by decide +kernel
theorem dL_law_308 : decode cL_law 308 = .ok (.iaload, 1) := by decide +kernel
theorem dL_law_309 : decode cL_law 309 = .ok (.aload_n 0, 1) := by decide +kernel
theorem dL_law_310 : decode cL_law 310 = .ok (.iload_n 3, 1) := by decide +kernel
theorem dL_law_311 : decode cL_law 311 = .ok (.iconst 2, 1) := by decide +kernel
theorem dL_law_312 : decode cL_law 312 = .ok (.iadd, 1) := by decide +kernel
theorem dL_law_313 : decode cL_law 313 = .ok (.iaload, 1) := by decide +kernel
theorem dL_law_314 : decode cL_law 314 = .ok (.invokevirtual 41, 3) := by decide +kernel
theorem dL_law_317 : decode cL_law 317 = .ok (.if_icmp .eq 545, 3) := by decide +kernel
theorem dL_law_320 : decode cL_law 320 = .ok (.iconst 0, 1) := by decide +kernel
theorem dL_law_321 : decode cL_law 321 = .ok (.ireturn, 1) := by decide +kernel
theorem dL_law_322 : decode cL_law 322 = .ok (.aload_n 1, 1) := by decide +kernel
theorem dL_law_323 : decode cL_law 323 = .ok (.aload_n 0, 1) := by decide +kernel
theorem dL_law_324 : decode cL_law 324 = .ok (.iload_n 3, 1) := by decide +kernel
theorem dL_law_325 : decode cL_law 325 = .ok (.iconst 1, 1) := by decide +kernel
theorem dL_law_326 : decode cL_law 326 = .ok (.iadd, 1) := by decide +kernel
theorem dL_law_327 : decode cL_law 327 = .ok (.iaload, 1) := by decide +kernel
theorem dL_law_328 : decode cL_law 328 = .ok (.aload_n 0, 1) := by decide +kernel
theorem dL_law_329 : decode cL_law 329 = .ok (.iload_n 3, 1) := by decide +kernel
theorem dL_law_330 : decode cL_law 330 = .ok (.iconst 2, 1) := by decide +kernel
theorem dL_law_331 : decode cL_law 331 = .ok (.iadd, 1) := by decide +kernel
theorem dL_law_332 : decode cL_law 332 = .ok (.iaload, 1) := by decide +kernel
theorem dL_law_333 : decode cL_law 333 = .ok (.invokevirtual 42, 3) := by decide +kernel
theorem dL_law_336 : decode cL_law 336 = .ok (.aload_n 2, 1) := by decide +kernel
theorem dL_law_337 : decode cL_law 337 = .ok (.aload_n 0, 1) := by decide +kernel
theorem dL_law_338 : decode cL_law 338 = .ok (.iload_n 3, 1) := by decide +kernel
theorem dL_law_339 : decode cL_law 339 = .ok (.iconst 1, 1) := by decide +kernel
theorem dL_law_340 : decode cL_law 340 = .ok (.iadd, 1) := by decide +kernel
theorem dL_law_341 : decode cL_law 341 = .ok (.iaload, 1) := by decide +kernel
theorem dL_law_342 : decode cL_law 342 = .ok (.aload_n 0, 1) := by decide +kernel
theorem dL_law_343 : decode cL_law 343 = .ok (.iload_n 3, 1) := by decide +kernel
theorem dL_law_344 : decode cL_law 344 = .ok (.iconst 2, 1) := by decide +kernel
theorem dL_law_345 : decode cL_law 345 = .ok (.iadd, 1) := by decide +kernel
theorem dL_law_346 : decode cL_law 346 = .ok (.iaload, 1) := by decide +kernel
theorem dL_law_347 : decode cL_law 347 = .ok (.invokevirtual 45, 3) := by decide +kernel
theorem dL_law_350 : decode cL_law 350 = .ok (.if_icmp .eq 512, 3) := by decide +kernel
theorem dL_law_353 : decode cL_law 353 = .ok (.iconst 0, 1) := by decide +kernel
theorem dL_law_354 : decode cL_law 354 = .ok (.ireturn, 1) := by decide +kernel
theorem dL_law_355 : decode cL_law 355 = .ok (.aload_n 1, 1) := by decide +kernel
theorem dL_law_356 : decode cL_law 356 = .ok (.aload_n 0, 1) := by decide +kernel
theorem dL_law_357 : decode cL_law 357 = .ok (.iload_n 3, 1) := by decide +kernel
theorem dL_law_358 : decode cL_law 358 = .ok (.iconst 1, 1) := by decide +kernel
theorem dL_law_359 : decode cL_law 359 = .ok (.iadd, 1) := by decide +kernel
theorem dL_law_360 : decode cL_law 360 = .ok (.iaload, 1) := by decide +kernel
theorem dL_law_361 : decode cL_law 361 = .ok (.aload_n 0, 1) := by decide +kernel
theorem dL_law_362 : decode cL_law 362 = .ok (.iload_n 3, 1) := by decide +kernel
theorem dL_law_363 : decode cL_law 363 = .ok (.iconst 2, 1) := by decide +kernel
theorem dL_law_364 : decode cL_law 364 = .ok (.iadd, 1) := by decide +kernel
theorem dL_law_365 : decode cL_law 365 = .ok (.iaload, 1) := by decide +kernel
theorem dL_law_366 : decode cL_law 366 = .ok (.invokevirtual 46, 3) := by decide +kernel
theorem dL_law_369 : decode cL_law 369 = .ok (.aload_n 2, 1) := by decide +kernel
theorem dL_law_370 : decode cL_law 370 = .ok (.aload_n 0, 1) := by decide +kernel
theorem dL_law_371 : decode cL_law 371 = .ok (.iload_n 3, 1) := by decide +kernel
theorem dL_law_372 : decode cL_law 372 = .ok (.iconst 1, 1) := by decide +kernel
theorem dL_law_373 : decode cL_law 373 = .ok (.iadd, 1) := by decide +kernel
theorem dL_law_374 : decode cL_law 374 = .ok (.iaload, 1) := by decide +kernel
theorem dL_law_375 : decode cL_law 375 = .ok (.aload_n 0, 1) := by decide +kernel
theorem dL_law_376 : decode cL_law 376 = .ok (.iload_n 3, 1) := by decide +kernel
theorem dL_law_377 : decode cL_law 377 = .ok (.iconst 2, 1) := by decide +kernel
theorem dL_law_378 : decode cL_law 378 = .ok (.iadd, 1) := by decide +kernel
theorem dL_law_379 : decode cL_law 379 = .ok (.iaload, 1) := by decide +kernel
theorem dL_law_380 : decode cL_law 380 = .ok (.invokevirtual 49, 3) := by decide +kernel
theorem dL_law_383 : decode cL_law 383 = .ok (.if_icmp .eq 479, 3) := by decide +kernel
theorem dL_law_386 : decode cL_law 386 = .ok (.iconst 0, 1) := by decide +kernel
theorem dL_law_387 : decode cL_law 387 = .ok (.ireturn, 1) := by decide +kernel
theorem dL_law_388 : decode cL_law 388 = .ok (.aload_n 1, 1) := by decide +kernel
theorem dL_law_389 : decode cL_law 389 = .ok (.aload_n 0, 1) := by decide +kernel
theorem dL_law_390 : decode cL_law 390 = .ok (.iload_n 3, 1) := by decide +kernel
theorem dL_law_391 : decode cL_law 391 = .ok (.iconst 1, 1) := by decide +kernel
theorem dL_law_392 : decode cL_law 392 = .ok (.iadd, 1) := by decide +kernel
theorem dL_law_393 : decode cL_law 393 = .ok (.iaload, 1) := by decide +kernel
theorem dL_law_394 : decode cL_law 394 = .ok (.aload_n 0, 1) := by decide +kernel
theorem dL_law_395 : decode cL_law 395 = .ok (.iload_n 3, 1) := by decide +kernel
theorem dL_law_396 : decode cL_law 396 = .ok (.iconst 2, 1) := by decide +kernel
theorem dL_law_397 : decode cL_law 397 = .ok (.iadd, 1) := by decide +kernel
theorem dL_law_398 : decode cL_law 398 = .ok (.iaload, 1) := by decide +kernel
theorem dL_law_399 : decode cL_law 399 = .ok (.invokevirtual 50, 3) := by decide +kernel
theorem dL_law_402 : decode cL_law 402 = .ok (.aload_n 2, 1) := by decide +kernel
theorem dL_law_403 : decode cL_law 403 = .ok (.aload_n 0, 1) := by decide +kernel
theorem dL_law_404 : decode cL_law 404 = .ok (.iload_n 3, 1) := by decide +kernel
theorem dL_law_405 : decode cL_law 405 = .ok (.iconst 1, 1) := by decide +kernel
theorem dL_law_406 : decode cL_law 406 = .ok (.iadd, 1) := by decide +kernel
theorem dL_law_407 : decode cL_law 407 = .ok (.iaload, 1) := by decide +kernel
theorem dL_law_408 : decode cL_law 408 = .ok (.aload_n 0, 1) := by decide +kernel
theorem dL_law_409 : decode cL_law 409 = .ok (.iload_n 3, 1) := by decide +kernel
theorem dL_law_410 : decode cL_law 410 = .ok (.iconst 2, 1) := by decide +kernel
theorem dL_law_411 : decode cL_law 411 = .ok (.iadd, 1) := by decide +kernel
theorem dL_law_412 : decode cL_law 412 = .ok (.iaload, 1) := by decide +kernel
theorem dL_law_413 : decode cL_law 413 = .ok (.invokevirtual 53, 3) := by decide +kernel
theorem dL_law_416 : decode cL_law 416 = .ok (.if_icmp .eq 446, 3) := by decide +kernel
theorem dL_law_419 : decode cL_law 419 = .ok (.iconst 0, 1) := by decide +kernel
theorem dL_law_420 : decode cL_law 420 = .ok (.ireturn, 1) := by decide +kernel
theorem dL_law_421 : decode cL_law 421 = .ok (.aload_n 1, 1) := by decide +kernel
theorem dL_law_422 : decode cL_law 422 = .ok (.aload_n 0, 1) := by decide +kernel
theorem dL_law_423 : decode cL_law 423 = .ok (.iload_n 3, 1) := by decide +kernel
theorem dL_law_424 : decode cL_law 424 = .ok (.iconst 1, 1) := by decide +kernel
theorem dL_law_425 : decode cL_law 425 = .ok (.iadd, 1) := by decide +kernel
theorem dL_law_426 : decode cL_law 426 = .ok (.iaload, 1) := by decide +kernel
theorem dL_law_427 : decode cL_law 427 = .ok (.aload_n 0, 1) := by decide +kernel
theorem dL_law_428 : decode cL_law 428 = .ok (.iload_n 3, 1) := by decide +kernel
theorem dL_law_429 : decode cL_law 429 = .ok (.iconst 2, 1) := by decide +kernel
theorem dL_law_430 : decode cL_law 430 = .ok (.iadd, 1) := by decide +kernel
theorem dL_law_431 : decode cL_law 431 = .ok (.iaload, 1) := by decide +kernel
theorem dL_law_432 : decode cL_law 432 = .ok (.invokevirtual 54, 3) := by decide +kernel
theorem dL_law_435 : decode cL_law 435 = .ok (.aload_n 2, 1) := by decide +kernel
theorem dL_law_436 : decode cL_law 436 = .ok (.aload_n 0, 1) := by decide +kernel
theorem dL_law_437 : decode cL_law 437 = .ok (.iload_n 3, 1) := by decide +kernel
theorem dL_law_438 : decode cL_law 438 = .ok (.iconst 1, 1) := by decide +kernel
theorem dL_law_439 : decode cL_law 439 = .ok (.iadd, 1) := by decide +kernel
theorem dL_law_440 : decode cL_law 440 = .ok (.iaload, 1) := by decide +kernel
theorem dL_law_441 : decode cL_law 441 = .ok (.aload_n 0, 1) := by decide +kernel
theorem dL_law_442 : decode cL_law 442 = .ok (.iload_n 3, 1) := by decide +kernel
theorem dL_law_443 : decode cL_law 443 = .ok (.iconst 2, 1) := by decide +kernel
theorem dL_law_444 : decode cL_law 444 = .ok (.iadd, 1) := by decide +kernel
theorem dL_law_445 : decode cL_law 445 = .ok (.iaload, 1) := by decide +kernel
theorem dL_law_446 : decode cL_law 446 = .ok (.invokevirtual 57, 3) := by decide +kernel
theorem dL_law_449 : decode cL_law 449 = .ok (.if_icmp .eq 413, 3) := by decide +kernel
theorem dL_law_452 : decode cL_law 452 = .ok (.iconst 0, 1) := by decide +kernel
theorem dL_law_453 : decode cL_law 453 = .ok (.ireturn, 1) := by decide +kernel
theorem dL_law_454 : decode cL_law 454 = .ok (.aload_n 1, 1) := by decide +kernel
theorem dL_law_455 : decode cL_law 455 = .ok (.aload_n 0, 1) := by decide +kernel
theorem dL_law_456 : decode cL_law 456 = .ok (.iload_n 3, 1) := by decide +kernel
theorem dL_law_457 : decode cL_law 457 = .ok (.iconst 1, 1) := by decide +kernel
theorem dL_law_458 : decode cL_law 458 = .ok (.iadd, 1) := by decide +kernel
theorem dL_law_459 : decode cL_law 459 = .ok (.iaload, 1) := by decide +kernel
theorem dL_law_460 : decode cL_law 460 = .ok (.aload_n 0, 1) := by decide +kernel
theorem dL_law_461 : decode cL_law 461 = .ok (.iload_n 3, 1) := by decide +kernel
theorem dL_law_462 : decode cL_law 462 = .ok (.iconst 2, 1) := by decide +kernel
theorem dL_law_463 : decode cL_law 463 = .ok (.iadd, 1) := by decide +kernel
theorem dL_law_464 : decode cL_law 464 = .ok (.iaload, 1) := by decide +kernel
theorem dL_law_465 : decode cL_law 465 = .ok (.invokevirtual 58, 3) := by decide +kernel
theorem dL_law_468 : decode cL_law 468 = .ok (.aload_n 2, 1) := by decide +kernel
theorem dL_law_469 : decode cL_law 469 = .ok (.aload_n 0, 1) := by decide +kernel
theorem dL_law_470 : decode cL_law 470 = .ok (.iload_n 3, 1) := by decide +kernel
theorem dL_law_471 : decode cL_law 471 = .ok (.iconst 1, 1) := by decide +kernel
theorem dL_law_472 : decode cL_law 472 = .ok (.iadd, 1) := by decide +kernel
theorem dL_law_473 : decode cL_law 473 = .ok (.iaload, 1) := by decide +kernel
theorem dL_law_474 : decode cL_law 474 = .ok (.aload_n 0, 1) := by decide +kernel
theorem dL_law_475 : decode cL_law 475 = .ok (.iload_n 3, 1) := by decide +kernel
theorem dL_law_476 : decode cL_law 476 = .ok (.iconst 2, 1) := by decide +kernel
theorem dL_law_477 : decode cL_law 477 = .ok (.iadd, 1) := by decide +kernel
theorem dL_law_478 : decode cL_law 478 = .ok (.iaload, 1) := by decide +kernel
theorem dL_law_479 : decode cL_law 479 = .ok (.invokevirtual 61, 3) := by decide +kernel
theorem dL_law_482 : decode cL_law 482 = .ok (.if_icmp .eq 380, 3) := by decide +kernel
theorem dL_law_485 : decode cL_law 485 = .ok (.iconst 0, 1) := by decide +kernel
theorem dL_law_486 : decode cL_law 486 = .ok (.ireturn, 1) := by decide +kernel
theorem dL_law_487 : decode cL_law 487 = .ok (.aload_n 1, 1) := by decide +kernel
theorem dL_law_488 : decode cL_law 488 = .ok (.invokevirtual 62, 3) := by decide +kernel
theorem dL_law_491 : decode cL_law 491 = .ok (.aload_n 2, 1) := by decide +kernel
theorem dL_law_492 : decode cL_law 492 = .ok (.invokevirtual 65, 3) := by decide +kernel
theorem dL_law_495 : decode cL_law 495 = .ok (.if_icmp .eq 367, 3) := by decide +kernel
theorem dL_law_498 : decode cL_law 498 = .ok (.iconst 0, 1) := by decide +kernel
theorem dL_law_499 : decode cL_law 499 = .ok (.ireturn, 1) := by decide +kernel
theorem dL_law_500 : decode cL_law 500 = .ok (.aload_n 1, 1) := by decide +kernel
theorem dL_law_501 : decode cL_law 501 = .ok (.aload_n 0, 1) := by decide +kernel
theorem dL_law_502 : decode cL_law 502 = .ok (.iload_n 3, 1) := by decide +kernel
theorem dL_law_503 : decode cL_law 503 = .ok (.iconst 1, 1) := by decide +kernel
theorem dL_law_504 : decode cL_law 504 = .ok (.iadd, 1) := by decide +kernel
theorem dL_law_505 : decode cL_law 505 = .ok (.iaload, 1) := by decide +kernel
theorem dL_law_506 : decode cL_law 506 = .ok (.invokevirtual 66, 3) := by decide +kernel
theorem dL_law_509 : decode cL_law 509 = .ok (.aload_n 2, 1) := by decide +kernel
theorem dL_law_510 : decode cL_law 510 = .ok (.aload_n 0, 1) := by decide +kernel
theorem dL_law_511 : decode cL_law 511 = .ok (.iload_n 3, 1) := by decide +kernel
theorem dL_law_512 : decode cL_law 512 = .ok (.iconst 1, 1) := by decide +kernel
theorem dL_law_513 : decode cL_law 513 = .ok (.iadd, 1) := by decide +kernel
theorem dL_law_514 : decode cL_law 514 = .ok (.iaload, 1) := by decide +kernel
theorem dL_law_515 : decode cL_law 515 = .ok (.invokevirtual 70, 3) := by decide +kernel
theorem dL_law_518 : decode cL_law 518 = .ok (.if_icmp .eq 344, 3) := by decide +kernel
theorem dL_law_521 : decode cL_law 521 = .ok (.iconst 0, 1) := by decide +kernel
theorem dL_law_522 : decode cL_law 522 = .ok (.ireturn, 1) := by decide +kernel
theorem dL_law_523 : decode cL_law 523 = .ok (.aload_n 1, 1) := by decide +kernel
theorem dL_law_524 : decode cL_law 524 = .ok (.aload_n 0, 1) := by decide +kernel
theorem dL_law_525 : decode cL_law 525 = .ok (.iload_n 3, 1) := by decide +kernel
theorem dL_law_526 : decode cL_law 526 = .ok (.iconst 1, 1) := by decide +kernel
theorem dL_law_527 : decode cL_law 527 = .ok (.iadd, 1) := by decide +kernel
theorem dL_law_528 : decode cL_law 528 = .ok (.iaload, 1) := by decide +kernel
theorem dL_law_529 : decode cL_law 529 = .ok (.invokevirtual 71, 3) := by decide +kernel
theorem dL_law_532 : decode cL_law 532 = .ok (.aload_n 2, 1) := by decide +kernel
theorem dL_law_533 : decode cL_law 533 = .ok (.aload_n 0, 1) := by decide +kernel
theorem dL_law_534 : decode cL_law 534 = .ok (.iload_n 3, 1) := by decide +kernel
theorem dL_law_535 : decode cL_law 535 = .ok (.iconst 1, 1) := by decide +kernel
theorem dL_law_536 : decode cL_law 536 = .ok (.iadd, 1) := by decide +kernel
theorem dL_law_537 : decode cL_law 537 = .ok (.iaload, 1) := by decide +kernel
theorem dL_law_538 : decode cL_law 538 = .ok (.invokevirtual 74, 3) := by decide +kernel
theorem dL_law_541 : decode cL_law 541 = .ok (.if_icmp .eq 321, 3) := by decide +kernel
theorem dL_law_544 : decode cL_law 544 = .ok (.iconst 0, 1) := by decide +kernel
theorem dL_law_545 : decode cL_law 545 = .ok (.ireturn, 1) := by decide +kernel
theorem dL_law_546 : decode cL_law 546 = .ok (.aload_n 1, 1) := by decide +kernel
theorem dL_law_547 : decode cL_law 547 = .ok (.aload_n 0, 1) := by decide +kernel
theorem dL_law_548 : decode cL_law 548 = .ok (.iload_n 3, 1) := by decide +kernel
theorem dL_law_549 : decode cL_law 549 = .ok (.iconst 1, 1) := by decide +kernel
theorem dL_law_550 : decode cL_law 550 = .ok (.iadd, 1) := by decide +kernel
theorem dL_law_551 : decode cL_law 551 = .ok (.iaload, 1) := by decide +kernel
theorem dL_law_552 : decode cL_law 552 = .ok (.invokevirtual 75, 3) := by decide +kernel
theorem dL_law_555 : decode cL_law 555 = .ok (.aload_n 2, 1) := by decide +kernel
theorem dL_law_556 : decode cL_law 556 = .ok (.aload_n 0, 1) := by decide +kernel
theorem dL_law_557 : decode cL_law 557 = .ok (.iload_n 3, 1) := by decide +kernel
theorem dL_law_558 : decode cL_law 558 = .ok (.iconst 1, 1) := by decide +kernel
theorem dL_law_559 : decode cL_law 559 = .ok (.iadd, 1) := by decide +kernel
theorem dL_law_560 : decode cL_law 560 = .ok (.iaload, 1) := by decide +kernel
theorem dL_law_561 : decode cL_law 561 = .ok (.invokevirtual 78, 3) := by decide +kernel
theorem dL_law_564 : decode cL_law 564 = .ok (.if_icmp .eq 298, 3) := by decide +kernel
theorem dL_law_567 : decode cL_law 567 = .ok (.iconst 0, 1) := by decide +kernel
theorem dL_law_568 : decode cL_law 568 = .ok (.ireturn, 1) := by decide +kernel
theorem dL_law_569 : decode cL_law 569 = .ok (.aload_n 1, 1) := by decide +kernel
theorem dL_law_570 : decode cL_law 570 = .ok (.aload_n 0, 1) := by decide +kernel
theorem dL_law_571 : decode cL_law 571 = .ok (.iload_n 3, 1) := by decide +kernel
theorem dL_law_572 : decode cL_law 572 = .ok (.iconst 1, 1) := by decide +kernel
theorem dL_law_573 : decode cL_law 573 = .ok (.iadd, 1) := by decide +kernel
theorem dL_law_574 : decode cL_law 574 = .ok (.iaload, 1) := by decide +kernel
theorem dL_law_575 : decode cL_law 575 = .ok (.aload_n 0, 1) := by decide +kernel
theorem dL_law_576 : decode cL_law 576 = .ok (.iload_n 3, 1) := by decide +kernel
theorem dL_law_577 : decode cL_law 577 = .ok (.iconst 2, 1) := by decide +kernel
theorem dL_law_578 : decode cL_law 578 = .ok (.iadd, 1) := by decide +kernel
theorem dL_law_579 : decode cL_law 579 = .ok (.iaload, 1) := by decide +kernel
theorem dL_law_580 : decode cL_law 580 = .ok (.invokevirtual 79, 3) := by decide +kernel
theorem dL_law_583 : decode cL_law 583 = .ok (.aload_n 2, 1) := by decide +kernel
theorem dL_law_584 : decode cL_law 584 = .ok (.aload_n 0, 1) := by decide +kernel
theorem dL_law_585 : decode cL_law 585 = .ok (.iload_n 3, 1) := by decide +kernel
theorem dL_law_586 : decode cL_law 586 = .ok (.iconst 1, 1) := by decide +kernel
theorem dL_law_587 : decode cL_law 587 = .ok (.iadd, 1) := by decide +kernel
theorem dL_law_588 : decode cL_law 588 = .ok (.iaload, 1) := by decide +kernel
theorem dL_law_589 : decode cL_law 589 = .ok (.aload_n 0, 1) := by decide +kernel
theorem dL_law_590 : decode cL_law 590 = .ok (.iload_n 3, 1) := by decide +kernel
theorem dL_law_591 : decode cL_law 591 = .ok (.iconst 2, 1) := by decide +kernel
theorem dL_law_592 : decode cL_law 592 = .ok (.iadd, 1) := by decide +kernel
theorem dL_law_593 : decode cL_law 593 = .ok (.iaload, 1) := by decide +kernel
theorem dL_law_594 : decode cL_law 594 = .ok (.invokevirtual 82, 3) := by decide +kernel
theorem dL_law_597 : decode cL_law 597 = .ok (.if_icmp .eq 265, 3) := by decide +kernel
theorem dL_law_600 : decode cL_law 600 = .ok (.iconst 0, 1) := by decide +kernel
theorem dL_law_601 : decode cL_law 601 = .ok (.ireturn, 1) := by decide +kernel
theorem dL_law_602 : decode cL_law 602 = .ok (.aload_n 1, 1) := by decide +kernel
theorem dL_law_603 : decode cL_law 603 = .ok (.aload_n 0, 1) := by decide +kernel
theorem dL_law_604 : decode cL_law 604 = .ok (.iload_n 3, 1) := by decide +kernel
theorem dL_law_605 : decode cL_law 605 = .ok (.iconst 1, 1) := by decide +kernel
theorem dL_law_606 : decode cL_law 606 = .ok (.iadd, 1) := by decide +kernel
theorem dL_law_607 : decode cL_law 607 = .ok (.iaload, 1) := by decide +kernel
theorem dL_law_608 : decode cL_law 608 = .ok (.aload_n 0, 1) := by decide +kernel
theorem dL_law_609 : decode cL_law 609 = .ok (.iload_n 3, 1) := by decide +kernel
theorem dL_law_610 : decode cL_law 610 = .ok (.iconst 2, 1) := by decide +kernel
theorem dL_law_611 : decode cL_law 611 = .ok (.iadd, 1) := by decide +kernel
theorem dL_law_612 : decode cL_law 612 = .ok (.iaload, 1) := by decide +kernel
theorem dL_law_613 : decode cL_law 613 = .ok (.ifCond .eq 7, 3) := by decide +kernel
theorem dL_law_616 : decode cL_law 616 = .ok (.iconst 1, 1) := by decide +kernel
theorem dL_law_617 : decode cL_law 617 = .ok (.goto 4, 3) := by decide +kernel
theorem dL_law_620 : decode cL_law 620 = .ok (.iconst 0, 1) := by decide +kernel
theorem dL_law_621 : decode cL_law 621 = .ok (.invokevirtual 83, 3) := by decide +kernel
theorem dL_law_624 : decode cL_law 624 = .ok (.aload_n 2, 1) := by decide +kernel
theorem dL_law_625 : decode cL_law 625 = .ok (.aload_n 0, 1) := by decide +kernel
theorem dL_law_626 : decode cL_law 626 = .ok (.iload_n 3, 1) := by decide +kernel
theorem dL_law_627 : decode cL_law 627 = .ok (.iconst 1, 1) := by decide +kernel
theorem dL_law_628 : decode cL_law 628 = .ok (.iadd, 1) := by decide +kernel
theorem dL_law_629 : decode cL_law 629 = .ok (.iaload, 1) := by decide +kernel
theorem dL_law_630 : decode cL_law 630 = .ok (.aload_n 0, 1) := by decide +kernel
theorem dL_law_631 : decode cL_law 631 = .ok (.iload_n 3, 1) := by decide +kernel
theorem dL_law_632 : decode cL_law 632 = .ok (.iconst 2, 1) := by decide +kernel
theorem dL_law_633 : decode cL_law 633 = .ok (.iadd, 1) := by decide +kernel
theorem dL_law_634 : decode cL_law 634 = .ok (.iaload, 1) := by decide +kernel
theorem dL_law_635 : decode cL_law 635 = .ok (.ifCond .eq 7, 3) := by decide +kernel
theorem dL_law_638 : decode cL_law 638 = .ok (.iconst 1, 1) := by decide +kernel
theorem dL_law_639 : decode cL_law 639 = .ok (.goto 4, 3) := by decide +kernel
theorem dL_law_642 : decode cL_law 642 = .ok (.iconst 0, 1) := by decide +kernel
theorem dL_law_643 : decode cL_law 643 = .ok (.invokevirtual 87, 3) := by decide +kernel
theorem dL_law_646 : decode cL_law 646 = .ok (.if_icmp .eq 216, 3) := by decide +kernel
theorem dL_law_649 : decode cL_law 649 = .ok (.iconst 0, 1) := by decide +kernel
theorem dL_law_650 : decode cL_law 650 = .ok (.ireturn, 1) := by decide +kernel
theorem dL_law_651 : decode cL_law 651 = .ok (.aload_n 1, 1) := by decide +kernel
theorem dL_law_652 : decode cL_law 652 = .ok (.aload_n 0, 1) := by decide +kernel
theorem dL_law_653 : decode cL_law 653 = .ok (.iload_n 3, 1) := by decide +kernel
theorem dL_law_654 : decode cL_law 654 = .ok (.iconst 1, 1) := by decide +kernel
theorem dL_law_655 : decode cL_law 655 = .ok (.iadd, 1) := by decide +kernel
theorem dL_law_656 : decode cL_law 656 = .ok (.iaload, 1) := by decide +kernel
theorem dL_law_657 : decode cL_law 657 = .ok (.invokevirtual 88, 3) := by decide +kernel
theorem dL_law_660 : decode cL_law 660 = .ok (.aload_n 2, 1) := by decide +kernel
theorem dL_law_661 : decode cL_law 661 = .ok (.aload_n 0, 1) := by decide +kernel
theorem dL_law_662 : decode cL_law 662 = .ok (.iload_n 3, 1) := by decide +kernel
theorem dL_law_663 : decode cL_law 663 = .ok (.iconst 1, 1) := by decide +kernel
theorem dL_law_664 : decode cL_law 664 = .ok (.iadd, 1) := by decide +kernel
theorem dL_law_665 : decode cL_law 665 = .ok (.iaload, 1) := by decide +kernel
theorem dL_law_666 : decode cL_law 666 = .ok (.invokevirtual 91, 3) := by decide +kernel
theorem dL_law_669 : decode cL_law 669 = .ok (.if_icmp .eq 193, 3) := by decide +kernel
theorem dL_law_672 : decode cL_law 672 = .ok (.iconst 0, 1) := by decide +kernel
theorem dL_law_673 : decode cL_law 673 = .ok (.ireturn, 1) := by decide +kernel
theorem dL_law_674 : decode cL_law 674 = .ok (.aload_n 1, 1) := by decide +kernel
theorem dL_law_675 : decode cL_law 675 = .ok (.aload_n 0, 1) := by decide +kernel
theorem dL_law_676 : decode cL_law 676 = .ok (.iload_n 3, 1) := by decide +kernel
theorem dL_law_677 : decode cL_law 677 = .ok (.iconst 1, 1) := by decide +kernel
theorem dL_law_678 : decode cL_law 678 = .ok (.iadd, 1) := by decide +kernel
theorem dL_law_679 : decode cL_law 679 = .ok (.iaload, 1) := by decide +kernel
theorem dL_law_680 : decode cL_law 680 = .ok (.aload_n 0, 1) := by decide +kernel
theorem dL_law_681 : decode cL_law 681 = .ok (.iload_n 3, 1) := by decide +kernel
theorem dL_law_682 : decode cL_law 682 = .ok (.iconst 2, 1) := by decide +kernel
theorem dL_law_683 : decode cL_law 683 = .ok (.iadd, 1) := by decide +kernel
theorem dL_law_684 : decode cL_law 684 = .ok (.iaload, 1) := by decide +kernel
theorem dL_law_685 : decode cL_law 685 = .ok (.aload_n 0, 1) := by decide +kernel
theorem dL_law_686 : decode cL_law 686 = .ok (.iload_n 3, 1) := by decide +kernel
theorem dL_law_687 : decode cL_law 687 = .ok (.iconst 3, 1) := by decide +kernel
theorem dL_law_688 : decode cL_law 688 = .ok (.iadd, 1) := by decide +kernel
theorem dL_law_689 : decode cL_law 689 = .ok (.iaload, 1) := by decide +kernel
theorem dL_law_690 : decode cL_law 690 = .ok (.invokevirtual 92, 3) := by decide +kernel
theorem dL_law_693 : decode cL_law 693 = .ok (.aload_n 2, 1) := by decide +kernel
theorem dL_law_694 : decode cL_law 694 = .ok (.aload_n 0, 1) := by decide +kernel
theorem dL_law_695 : decode cL_law 695 = .ok (.iload_n 3, 1) := by decide +kernel
theorem dL_law_696 : decode cL_law 696 = .ok (.iconst 1, 1) := by decide +kernel
theorem dL_law_697 : decode cL_law 697 = .ok (.iadd, 1) := by decide +kernel
theorem dL_law_698 : decode cL_law 698 = .ok (.iaload, 1) := by decide +kernel
theorem dL_law_699 : decode cL_law 699 = .ok (.aload_n 0, 1) := by decide +kernel
theorem dL_law_700 : decode cL_law 700 = .ok (.iload_n 3, 1) := by decide +kernel
theorem dL_law_701 : decode cL_law 701 = .ok (.iconst 2, 1) := by decide +kernel
theorem dL_law_702 : decode cL_law 702 = .ok (.iadd, 1) := by decide +kernel
theorem dL_law_703 : decode cL_law 703 = .ok (.iaload, 1) := by decide +kernel
theorem dL_law_704 : decode cL_law 704 = .ok (.aload_n 0, 1) := by decide +kernel
theorem dL_law_705 : decode cL_law 705 = .ok (.iload_n 3, 1) := by decide +kernel
theorem dL_law_706 : decode cL_law 706 = .ok (.iconst 3, 1) := by decide +kernel
theorem dL_law_707 : decode cL_law 707 = .ok (.iadd, 1) := by decide +kernel
theorem dL_law_708 : decode cL_law 708 = .ok (.iaload, 1) := by decide +kernel
theorem dL_law_709 : decode cL_law 709 = .ok (.invokevirtual 96, 3) := by decide +kernel
theorem dL_law_712 : decode cL_law 712 = .ok (.if_icmp .eq 150, 3) := by decide +kernel
theorem dL_law_715 : decode cL_law 715 = .ok (.iconst 0, 1) := by decide +kernel
theorem dL_law_716 : decode cL_law 716 = .ok (.ireturn, 1) := by decide +kernel
theorem dL_law_717 : decode cL_law 717 = .ok (.aload_n 1, 1) := by decide +kernel
theorem dL_law_718 : decode cL_law 718 = .ok (.aload_n 0, 1) := by decide +kernel
theorem dL_law_719 : decode cL_law 719 = .ok (.iload_n 3, 1) := by decide +kernel
theorem dL_law_720 : decode cL_law 720 = .ok (.iconst 1, 1) := by decide +kernel
theorem dL_law_721 : decode cL_law 721 = .ok (.iadd, 1) := by decide +kernel
theorem dL_law_722 : decode cL_law 722 = .ok (.iaload, 1) := by decide +kernel
theorem dL_law_723 : decode cL_law 723 = .ok (.invokevirtual 97, 3) := by decide +kernel
theorem dL_law_726 : decode cL_law 726 = .ok (.aload_n 2, 1) := by decide +kernel
theorem dL_law_727 : decode cL_law 727 = .ok (.aload_n 0, 1) := by decide +kernel
theorem dL_law_728 : decode cL_law 728 = .ok (.iload_n 3, 1) := by decide +kernel
theorem dL_law_729 : decode cL_law 729 = .ok (.iconst 1, 1) := by decide +kernel
theorem dL_law_730 : decode cL_law 730 = .ok (.iadd, 1) := by decide +kernel
theorem dL_law_731 : decode cL_law 731 = .ok (.iaload, 1) := by decide +kernel
theorem dL_law_732 : decode cL_law 732 = .ok (.invokevirtual 100, 3) := by decide +kernel
theorem dL_law_735 : decode cL_law 735 = .ok (.if_icmp .eq 127, 3) := by decide +kernel
theorem dL_law_738 : decode cL_law 738 = .ok (.iconst 0, 1) := by decide +kernel
theorem dL_law_739 : decode cL_law 739 = .ok (.ireturn, 1) := by decide +kernel
theorem dL_law_740 : decode cL_law 740 = .ok (.aload_n 1, 1) := by decide +kernel
theorem dL_law_741 : decode cL_law 741 = .ok (.aload_n 0, 1) := by decide +kernel
theorem dL_law_742 : decode cL_law 742 = .ok (.iload_n 3, 1) := by decide +kernel
theorem dL_law_743 : decode cL_law 743 = .ok (.iconst 1, 1) := by decide +kernel
theorem dL_law_744 : decode cL_law 744 = .ok (.iadd, 1) := by decide +kernel
theorem dL_law_745 : decode cL_law 745 = .ok (.iaload, 1) := by decide +kernel
theorem dL_law_746 : decode cL_law 746 = .ok (.aload_n 0, 1) := by decide +kernel
theorem dL_law_747 : decode cL_law 747 = .ok (.iload_n 3, 1) := by decide +kernel
theorem dL_law_748 : decode cL_law 748 = .ok (.iconst 2, 1) := by decide +kernel
theorem dL_law_749 : decode cL_law 749 = .ok (.iadd, 1) := by decide +kernel
theorem dL_law_750 : decode cL_law 750 = .ok (.iaload, 1) := by decide +kernel
theorem dL_law_751 : decode cL_law 751 = .ok (.invokevirtual 101, 3) := by decide +kernel
theorem dL_law_754 : decode cL_law 754 = .ok (.aload_n 2, 1) := by decide +kernel
theorem dL_law_755 : decode cL_law 755 = .ok (.aload_n 0, 1) := by decide +kernel
theorem dL_law_756 : decode cL_law 756 = .ok (.iload_n 3, 1) := by decide +kernel
theorem dL_law_757 : decode cL_law 757 = .ok (.iconst 1, 1) := by decide +kernel
theorem dL_law_758 : decode cL_law 758 = .ok (.iadd, 1) := by decide +kernel
theorem dL_law_759 : decode cL_law 759 = .ok (.iaload, 1) := by decide +kernel
theorem dL_law_760 : decode cL_law 760 = .ok (.aload_n 0, 1) := by decide +kernel
theorem dL_law_761 : decode cL_law 761 = .ok (.iload_n 3, 1) := by decide +kernel
theorem dL_law_762 : decode cL_law 762 = .ok (.iconst 2, 1) := by decide +kernel
theorem dL_law_763 : decode cL_law 763 = .ok (.iadd, 1) := by decide +kernel
theorem dL_law_764 : decode cL_law 764 = .ok (.iaload, 1) := by decide +kernel
theorem dL_law_765 : decode cL_law 765 = .ok (.invokevirtual 104, 3) := by decide +kernel
theorem dL_law_768 : decode cL_law 768 = .ok (.if_icmp .eq 94, 3) := by decide +kernel
theorem dL_law_771 : decode cL_law 771 = .ok (.iconst 0, 1) := by decide +kernel
theorem dL_law_772 : decode cL_law 772 = .ok (.ireturn, 1) := by decide +kernel
theorem dL_law_773 : decode cL_law 773 = .ok (.aload_n 1, 1) := by decide +kernel
theorem dL_law_774 : decode cL_law 774 = .ok (.aload_n 0, 1) := by decide +kernel
theorem dL_law_775 : decode cL_law 775 = .ok (.iload_n 3, 1) := by decide +kernel
theorem dL_law_776 : decode cL_law 776 = .ok (.iconst 1, 1) := by decide +kernel
theorem dL_law_777 : decode cL_law 777 = .ok (.iadd, 1) := by decide +kernel
theorem dL_law_778 : decode cL_law 778 = .ok (.iaload, 1) := by decide +kernel
theorem dL_law_779 : decode cL_law 779 = .ok (.aload_n 0, 1) := by decide +kernel
theorem dL_law_780 : decode cL_law 780 = .ok (.iload_n 3, 1) := by decide +kernel
theorem dL_law_781 : decode cL_law 781 = .ok (.iconst 2, 1) := by decide +kernel
theorem dL_law_782 : decode cL_law 782 = .ok (.iadd, 1) := by decide +kernel
theorem dL_law_783 : decode cL_law 783 = .ok (.iaload, 1) := by decide +kernel
theorem dL_law_784 : decode cL_law 784 = .ok (.invokevirtual 105, 3) := by decide +kernel
theorem dL_law_787 : decode cL_law 787 = .ok (.aload_n 2, 1) := by decide +kernel
theorem dL_law_788 : decode cL_law 788 = .ok (.aload_n 0, 1) := by decide +kernel
theorem dL_law_789 : decode cL_law 789 = .ok (.iload_n 3, 1) := by decide +kernel
theorem dL_law_790 : decode cL_law 790 = .ok (.iconst 1, 1) := by decide +kernel
theorem dL_law_791 : decode cL_law 791 = .ok (.iadd, 1) := by decide +kernel
theorem dL_law_792 : decode cL_law 792 = .ok (.iaload, 1) := by decide +kernel
theorem dL_law_793 : decode cL_law 793 = .ok (.aload_n 0, 1) := by decide +kernel
theorem dL_law_794 : decode cL_law 794 = .ok (.iload_n 3, 1) := by decide +kernel
theorem dL_law_795 : decode cL_law 795 = .ok (.iconst 2, 1) := by decide +kernel
theorem dL_law_796 : decode cL_law 796 = .ok (.iadd, 1) := by decide +kernel
theorem dL_law_797 : decode cL_law 797 = .ok (.iaload, 1) := by decide +kernel
theorem dL_law_798 : decode cL_law 798 = .ok (.invokevirtual 108, 3) := by decide +kernel
theorem dL_law_801 : decode cL_law 801 = .ok (.if_icmp .eq 61, 3) := by decide +kernel
theorem dL_law_804 : decode cL_law 804 = .ok (.iconst 0, 1) := by decide +kernel
theorem dL_law_805 : decode cL_law 805 = .ok (.ireturn, 1) := by decide +kernel
theorem dL_law_806 : decode cL_law 806 = .ok (.aload_n 1, 1) := by decide +kernel
theorem dL_law_807 : decode cL_law 807 = .ok (.aload_n 0, 1) := by decide +kernel
theorem dL_law_808 : decode cL_law 808 = .ok (.iload_n 3, 1) := by decide +kernel
theorem dL_law_809 : decode cL_law 809 = .ok (.iconst 1, 1) := by decide +kernel
theorem dL_law_810 : decode cL_law 810 = .ok (.iadd, 1) := by decide +kernel
theorem dL_law_811 : decode cL_law 811 = .ok (.iaload, 1) := by decide +kernel
theorem dL_law_812 : decode cL_law 812 = .ok (.aload_n 0, 1) := by decide +kernel
theorem dL_law_813 : decode cL_law 813 = .ok (.iload_n 3, 1) := by decide +kernel
theorem dL_law_814 : decode cL_law 814 = .ok (.iconst 2, 1) := by decide +kernel
theorem dL_law_815 : decode cL_law 815 = .ok (.iadd, 1) := by decide +kernel
theorem dL_law_816 : decode cL_law 816 = .ok (.iaload, 1) := by decide +kernel
theorem dL_law_817 : decode cL_law 817 = .ok (.invokevirtual 109, 3) := by decide +kernel
theorem dL_law_820 : decode cL_law 820 = .ok (.aload_n 2, 1) := by decide +kernel
theorem dL_law_821 : decode cL_law 821 = .ok (.aload_n 0, 1) := by decide +kernel
theorem dL_law_822 : decode cL_law 822 = .ok (.iload_n 3, 1) := by decide +kernel
theorem dL_law_823 : decode cL_law 823 = .ok (.iconst 1, 1) := by decide +kernel
theorem dL_law_824 : decode cL_law 824 = .ok (.iadd, 1) := by decide +kernel
theorem dL_law_825 : decode cL_law 825 = .ok (.iaload, 1) := by decide +kernel
theorem dL_law_826 : decode cL_law 826 = .ok (.aload_n 0, 1) := by decide +kernel
theorem dL_law_827 : decode cL_law 827 = .ok (.iload_n 3, 1) := by decide +kernel
theorem dL_law_828 : decode cL_law 828 = .ok (.iconst 2, 1) := by decide +kernel
theorem dL_law_829 : decode cL_law 829 = .ok (.iadd, 1) := by decide +kernel
theorem dL_law_830 : decode cL_law 830 = .ok (.iaload, 1) := by decide +kernel
theorem dL_law_831 : decode cL_law 831 = .ok (.invokevirtual 112, 3) := by decide +kernel
theorem dL_law_834 : decode cL_law 834 = .ok (.if_icmp .eq 28, 3) := by decide +kernel
theorem dL_law_837 : decode cL_law 837 = .ok (.iconst 0, 1) := by decide +kernel
theorem dL_law_838 : decode cL_law 838 = .ok (.ireturn, 1) := by decide +kernel
theorem dL_law_839 : decode cL_law 839 = .ok (.aload_n 1, 1) := by decide +kernel
theorem dL_law_840 : decode cL_law 840 = .ok (.aload_n 0, 1) := by decide +kernel
theorem dL_law_841 : decode cL_law 841 = .ok (.iload_n 3, 1) := by decide +kernel
theorem dL_law_842 : decode cL_law 842 = .ok (.iconst 1, 1) := by decide +kernel
theorem dL_law_843 : decode cL_law 843 = .ok (.iadd, 1) := by decide +kernel
theorem dL_law_844 : decode cL_law 844 = .ok (.iaload, 1) := by decide +kernel
theorem dL_law_845 : decode cL_law 845 = .ok (.invokevirtual 113, 3) := by decide +kernel
theorem dL_law_848 : decode cL_law 848 = .ok (.aload_n 2, 1) := by decide +kernel
theorem dL_law_849 : decode cL_law 849 = .ok (.aload_n 0, 1) := by decide +kernel
theorem dL_law_850 : decode cL_law 850 = .ok (.iload_n 3, 1) := by decide +kernel
theorem dL_law_851 : decode cL_law 851 = .ok (.iconst 1, 1) := by decide +kernel
theorem dL_law_852 : decode cL_law 852 = .ok (.iadd, 1) := by decide +kernel
theorem dL_law_853 : decode cL_law 853 = .ok (.iaload, 1) := by decide +kernel
theorem dL_law_854 : decode cL_law 854 = .ok (.invokevirtual 116, 3) := by decide +kernel
theorem dL_law_857 : decode cL_law 857 = .ok (.if_icmp .eq 5, 3) := by decide +kernel
theorem dL_law_860 : decode cL_law 860 = .ok (.iconst 0, 1) := by decide +kernel
theorem dL_law_861 : decode cL_law 861 = .ok (.ireturn, 1) := by decide +kernel
theorem dL_law_862 : decode cL_law 862 = .ok (.iinc 3 6, 3) := by decide +kernel
theorem dL_law_865 : decode cL_law 865 = .ok (.goto (-847), 3) := by decide +kernel
theorem dL_law_868 : decode cL_law 868 = .ok (.iconst 1, 1) := by decide +kernel
theorem dL_law_869 : decode cL_law 869 = .ok (.ireturn, 1) := by decide +kernel
