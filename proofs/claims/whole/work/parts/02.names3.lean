theorem dX11_init_50 : decode cX11_init 50 = .ok (.putfield 28, 3) := by decide +kernel
theorem dX11_init_53 : decode cX11_init 53 = .ok (.aload_n 0, 1) := by decide +kernel
theorem dX11_init_54 : decode cX11_init 54 = .ok (.bipush 12, 2) := by decide +kernel
theorem dX11_init_56 : decode cX11_init 56 = .ok (.newarray .int, 2) := by decide +kernel
theorem dX11_init_58 : decode cX11_init 58 = .ok (.putfield 31, 3) := by decide +kernel
theorem dX11_init_61 : decode cX11_init 61 = .ok (.aload_n 0, 1) := by decide +kernel
theorem dX11_init_62 : decode cX11_init 62 = .ok (.bipush 12, 2) := by decide +kernel
theorem dX11_init_64 : decode cX11_init 64 = .ok (.newarray .int, 2) := by decide +kernel
theorem dX11_init_66 : decode cX11_init 66 = .ok (.putfield 34, 3) := by decide +kernel
theorem dX11_init_69 : decode cX11_init 69 = .ok (.aload_n 0, 1) := by decide +kernel
theorem dX11_init_70 : decode cX11_init 70 = .ok (.bipush 24, 2) := by decide +kernel
theorem dX11_init_72 : decode cX11_init 72 = .ok (.newarray .int, 2) := by decide +kernel
theorem dX11_init_74 : decode cX11_init 74 = .ok (.putfield 37, 3) := by decide +kernel
theorem dX11_init_77 : decode cX11_init 77 = .ok (.aload_n 0, 1) := by decide +kernel
theorem dX11_init_78 : decode cX11_init 78 = .ok (.bipush 12, 2) := by decide +kernel
theorem dX11_init_80 : decode cX11_init 80 = .ok (.newarray .boolean, 2) := by decide +kernel
theorem dX11_init_82 : decode cX11_init 82 = .ok (.putfield 40, 3) := by decide +kernel
theorem dX11_init_85 : decode cX11_init 85 = .ok (.aload_n 0, 1) := by decide +kernel
theorem dX11_init_86 : decode cX11_init 86 = .ok (.bipush 24, 2) := by decide +kernel
theorem dX11_init_88 : decode cX11_init 88 = .ok (.newarray .int, 2) := by decide +kernel
theorem dX11_init_90 : decode cX11_init 90 = .ok (.putfield 43, 3) := by decide +kernel
theorem dX11_init_93 : decode cX11_init 93 = .ok (.aload_n 0, 1) := by decide +kernel
theorem dX11_init_94 : decode cX11_init 94 = .ok (.bipush 24, 2) := by decide +kernel
theorem dX11_init_96 : decode cX11_init 96 = .ok (.newarray .int, 2) := by decide +kernel
theorem dX11_init_98 : decode cX11_init 98 = .ok (.putfield 46, 3) := by decide +kernel
theorem dX11_init_101 : decode cX11_init 101 = .ok (.aload_n 0, 1) := by decide +kernel
theorem dX11_init_102 : decode cX11_init 102 = .ok (.bipush 24, 2) := by decide +kernel
theorem dX11_init_104 : decode cX11_init 104 = .ok (.newarray .int, 2) := by decide +kernel
theorem dX11_init_106 : decode cX11_init 106 = .ok (.putfield 49, 3) := by decide +kernel
theorem dX11_init_109 : decode cX11_init 109 = .ok (.aload_n 0, 1) := by decide +kernel
theorem dX11_init_110 : decode cX11_init 110 = .ok (.bipush 12, 2) := by decide +kernel
theorem dX11_init_112 : decode cX11_init 112 = .ok (.newarray .int, 2) := by decide +kernel
theorem dX11_init_114 : decode cX11_init 114 = .ok (.putfield 52, 3) := by decide +kernel
theorem dX11_init_117 : decode cX11_init 117 = .ok (.aload_n 0, 1) := by decide +kernel
theorem dX11_init_118 : decode cX11_init 118 = .ok (.bipush 12, 2) := by decide +kernel
theorem dX11_init_120 : decode cX11_init 120 = .ok (.newarray .int, 2) := by decide +kernel
theorem dX11_init_122 : decode cX11_init 122 = .ok (.putfield 55, 3) := by decide +kernel
theorem dX11_init_125 : decode cX11_init 125 = .ok (.aload_n 0, 1) := by decide +kernel
theorem dX11_init_126 : decode cX11_init 126 = .ok (.bipush 12, 2) := by decide +kernel
theorem dX11_init_128 : decode cX11_init 128 = .ok (.newarray .int, 2) := by decide +kernel
theorem dX11_init_130 : decode cX11_init 130 = .ok (.putfield 58, 3) := by decide +kernel
theorem dX11_init_133 : decode cX11_init 133 = .ok (.aload_n 0, 1) := by decide +kernel
theorem dX11_init_134 : decode cX11_init 134 = .ok (.bipush 12, 2) := by decide +kernel
theorem dX11_init_136 : decode cX11_init 136 = .ok (.newarray .int, 2) := by decide +kernel
theorem dX11_init_138 : decode cX11_init 138 = .ok (.putfield 61, 3) := by decide +kernel
theorem dX11_init_141 : decode cX11_init 141 = .ok (.aload_n 0, 1) := by decide +kernel
theorem dX11_init_142 : decode cX11_init 142 = .ok (.bipush 24, 2) := by decide +kernel
theorem dX11_init_144 : decode cX11_init 144 = .ok (.newarray .int, 2) := by decide +kernel
theorem dX11_init_146 : decode cX11_init 146 = .ok (.putfield 64, 3) := by decide +kernel
theorem dX11_init_149 : decode cX11_init 149 = .ok (.aload_n 0, 1) := by decide +kernel
theorem dX11_init_150 : decode cX11_init 150 = .ok (.bipush 8, 2) := by decide +kernel
theorem dX11_init_152 : decode cX11_init 152 = .ok (.newarray .boolean, 2) := by decide +kernel
theorem dX11_init_154 : decode cX11_init 154 = .ok (.putfield 67, 3) := by decide +kernel
theorem dX11_init_157 : decode cX11_init 157 = .ok (.aload_n 0, 1) := by decide +kernel
theorem dX11_init_158 : decode cX11_init 158 = .ok (.bipush 60, 2) := by decide +kernel
theorem dX11_init_160 : decode cX11_init 160 = .ok (.newarray .int, 2) := by decide +kernel
theorem dX11_init_162 : decode cX11_init 162 = .ok (.putfield 70, 3) := by decide +kernel
theorem dX11_init_165 : decode cX11_init 165 = .ok (.aload_n 0, 1) := by decide +kernel
theorem dX11_init_166 : decode cX11_init 166 = .ok (.bipush 60, 2) := by decide +kernel
theorem dX11_init_168 : decode cX11_init 168 = .ok (.newarray .int, 2) := by decide +kernel
theorem dX11_init_170 : decode cX11_init 170 = .ok (.putfield 73, 3) := by decide +kernel
theorem dX11_init_173 : decode cX11_init 173 = .ok (.aload_n 0, 1) := by decide +kernel
theorem dX11_init_174 : decode cX11_init 174 = .ok (.sipush 300, 3) := by decide +kernel
theorem dX11_init_177 : decode cX11_init 177 = .ok (.putfield 76, 3) := by decide +kernel
theorem dX11_init_180 : decode cX11_init 180 = .ok (.aload_n 0, 1) := by decide +kernel
theorem dX11_init_181 : decode cX11_init 181 = .ok (.iconst 3, 1) := by decide +kernel
theorem dX11_init_182 : decode cX11_init 182 = .ok (.newarray .int, 2) := by decide +kernel
theorem dX11_init_184 : decode cX11_init 184 = .ok (.putfield 80, 3) := by decide +kernel
theorem dX11_init_187 : decode cX11_init 187 = .ok (.aload_n 0, 1) := by decide +kernel
theorem dX11_init_188 : decode cX11_init 188 = .ok (.bipush 12, 2) := by decide +kernel
theorem dX11_init_190 : decode cX11_init 190 = .ok (.newarray .int, 2) := by decide +kernel
theorem dX11_init_192 : decode cX11_init 192 = .ok (.putfield 83, 3) := by decide +kernel
theorem dX11_init_195 : decode cX11_init 195 = .ok (.aload_n 0, 1) := by decide +kernel
theorem dX11_init_196 : decode cX11_init 196 = .ok (.bipush 12, 2) := by decide +kernel
theorem dX11_init_198 : decode cX11_init 198 = .ok (.newarray .int, 2) := by decide +kernel
theorem dX11_init_200 : decode cX11_init 200 = .ok (.putfield 86, 3) := by decide +kernel
theorem dX11_init_203 : decode cX11_init 203 = .ok (.aload_n 0, 1) := by decide +kernel
theorem dX11_init_204 : decode cX11_init 204 = .ok (.bipush 12, 2) := by decide +kernel
theorem dX11_init_206 : decode cX11_init 206 = .ok (.newarray .int, 2) := by decide +kernel
theorem dX11_init_208 : decode cX11_init 208 = .ok (.putfield 89, 3) := by decide +kernel
theorem dX11_init_211 : decode cX11_init 211 = .ok (.aload_n 0, 1) := by decide +kernel
theorem dX11_init_212 : decode cX11_init 212 = .ok (.sipush 7212, 3) := by decide +kernel
theorem dX11_init_215 : decode cX11_init 215 = .ok (.newarray .int, 2) := by decide +kernel
theorem dX11_init_217 : decode cX11_init 217 = .ok (.putfield 92, 3) := by decide +kernel
theorem dX11_init_220 : decode cX11_init 220 = .ok (.return_, 1) := by decide +kernel
theorem dX11_in_0 : decode cX11_in 0 = .ok (.iload_n 0, 1) := by decide +kernel
theorem dX11_in_1 : decode cX11_in 1 = .ok (.iload_n 1, 1) := by decide +kernel
theorem dX11_in_2 : decode cX11_in 2 = .ok (.if_icmp .lt 12, 3) := by decide +kernel
theorem dX11_in_5 : decode cX11_in 5 = .ok (.iload_n 0, 1) := by decide +kernel
theorem dX11_in_6 : decode cX11_in 6 = .ok (.iload_n 2, 1) := by decide +kernel
theorem dX11_in_7 : decode cX11_in 7 = .ok (.if_icmp .gt 7, 3) := by decide +kernel
theorem dX11_in_10 : decode cX11_in 10 = .ok (.iconst 1, 1) := by decide +kernel
theorem dX11_in_11 : decode cX11_in 11 = .ok (.goto 4, 3) := by decide +kernel
theorem dX11_in_14 : decode cX11_in 14 = .ok (.iconst 0, 1) := by decide +kernel
theorem dX11_in_15 : decode cX11_in 15 = .ok (.ireturn, 1) := by decide +kernel
theorem dX11_feed_0 : decode cX11_feed 0 = .ok (.aload_n 0, 1) := by decide +kernel
theorem dX11_feed_1 : decode cX11_feed 1 = .ok (.getfield 95, 3) := by decide +kernel
theorem dX11_feed_4 : decode cX11_feed 4 = .ok (.bipush 20, 2) := by decide +kernel
theorem dX11_feed_6 : decode cX11_feed 6 = .ok (.iadd, 1) := by decide +kernel
theorem dX11_feed_7 : decode cX11_feed 7 = .ok (.sipush 600, 3) := by decide +kernel
theorem dX11_feed_10 : decode cX11_feed 10 = .ok (.if_icmp .le 5, 3) := by decide +kernel
theorem dX11_feed_13 : decode cX11_feed 13 = .ok (.iconst (-1), 1) := by decide +kernel
theorem dX11_feed_14 : decode cX11_feed 14 = .ok (.ireturn, 1) := by decide +kernel
theorem dX11_feed_15 : decode cX11_feed 15 = .ok (.iconst 0, 1) := by decide +kernel
theorem dX11_feed_16 : decode cX11_feed 16 = .ok (.istore 6, 2) := by decide +kernel
theorem dX11_feed_18 : decode cX11_feed 18 = .ok (.iload 6, 2) := by decide +kernel
theorem dX11_feed_20 : decode cX11_feed 20 = .ok (.bipush 20, 2) := by decide +kernel
theorem dX11_feed_22 : decode cX11_feed 22 = .ok (.if_icmp .ge 90, 3) := by decide +kernel
theorem dX11_feed_25 : decode cX11_feed 25 = .ok (.iload 6, 2) := by decide +kernel
theorem dX11_feed_27 : decode cX11_feed 27 = .ok (.iconst 4, 1) := by decide +kernel
theorem dX11_feed_28 : decode cX11_feed 28 = .ok (.if_icmp .ge 7, 3) := by decide +kernel
theorem dX11_feed_31 : decode cX11_feed 31 = .ok (.iload_n 1, 1) := by decide +kernel
theorem dX11_feed_32 : decode cX11_feed 32 = .ok (.goto 39, 3) := by decide +kernel
theorem dX11_feed_35 : decode cX11_feed 35 = .ok (.iload 6, 2) := by decide +kernel
theorem dX11_feed_37 : decode cX11_feed 37 = .ok (.bipush 8, 2) := by decide +kernel
theorem dX11_feed_39 : decode cX11_feed 39 = .ok (.if_icmp .ge 7, 3) := by decide +kernel
theorem dX11_feed_42 : decode cX11_feed 42 = .ok (.iload_n 2, 1) := by decide +kernel
theorem dX11_feed_43 : decode cX11_feed 43 = .ok (.goto 28, 3) := by decide +kernel
theorem dX11_feed_46 : decode cX11_feed 46 = .ok (.iload 6, 2) := by decide +kernel
theorem dX11_feed_48 : decode cX11_feed 48 = .ok (.bipush 12, 2) := by decide +kernel
theorem dX11_feed_50 : decode cX11_feed 50 = .ok (.if_icmp .ge 7, 3) := by decide +kernel
theorem dX11_feed_53 : decode cX11_feed 53 = .ok (.iload_n 3, 1) := by decide +kernel
theorem dX11_feed_54 : decode cX11_feed 54 = .ok (.goto 17, 3) := by decide +kernel
theorem dX11_feed_57 : decode cX11_feed 57 = .ok (.iload 6, 2) := by decide +kernel
theorem dX11_feed_59 : decode cX11_feed 59 = .ok (.bipush 16, 2) := by decide +kernel
theorem dX11_feed_61 : decode cX11_feed 61 = .ok (.if_icmp .ge 8, 3) := by decide +kernel
theorem dX11_feed_64 : decode cX11_feed 64 = .ok (.iload 4, 2) := by decide +kernel
theorem dX11_feed_66 : decode cX11_feed 66 = .ok (.goto 5, 3) := by decide +kernel
theorem dX11_feed_69 : decode cX11_feed 69 = .ok (.iload 5, 2) := by decide +kernel
theorem dX11_feed_71 : decode cX11_feed 71 = .ok (.istore 7, 2) := by decide +kernel
theorem dX11_feed_73 : decode cX11_feed 73 = .ok (.aload_n 0, 1) := by decide +kernel
theorem dX11_feed_74 : decode cX11_feed 74 = .ok (.getfield 9, 3) := by decide +kernel
theorem dX11_feed_77 : decode cX11_feed 77 = .ok (.aload_n 0, 1) := by decide +kernel
theorem dX11_feed_78 : decode cX11_feed 78 = .ok (.getfield 95, 3) := by decide +kernel
theorem dX11_feed_81 : decode cX11_feed 81 = .ok (.iload 7, 2) := by decide +kernel
theorem dX11_feed_83 : decode cX11_feed 83 = .ok (.bipush 24, 2) := by decide +kernel
theorem dX11_feed_85 : decode cX11_feed 85 = .ok (.bipush 8, 2) := by decide +kernel
theorem dX11_feed_87 : decode cX11_feed 87 = .ok (.iload 6, 2) := by decide +kernel
theorem dX11_feed_89 : decode cX11_feed 89 = .ok (.iconst 4, 1) := by decide +kernel
theorem dX11_feed_90 : decode cX11_feed 90 = .ok (.irem, 1) := by decide +kernel
theorem dX11_feed_91 : decode cX11_feed 91 = .ok (.imul, 1) := by decide +kernel
theorem dX11_feed_92 : decode cX11_feed 92 = .ok (.isub, 1) := by decide +kernel
theorem dX11_feed_93 : decode cX11_feed 93 = .ok (.ishr, 1) := by decide +kernel
theorem dX11_feed_94 : decode cX11_feed 94 = .ok (.i2b, 1) := by decide +kernel
theorem dX11_feed_95 : decode cX11_feed 95 = .ok (.bastore, 1) := by decide +kernel
theorem dX11_feed_96 : decode cX11_feed 96 = .ok (.aload_n 0, 1) := by decide +kernel
theorem dX11_feed_97 : decode cX11_feed 97 = .ok (.dup, 1) := by decide +kernel
theorem dX11_feed_98 : decode cX11_feed 98 = .ok (.getfield 95, 3) := by decide +kernel
theorem dX11_feed_101 : decode cX11_feed 101 = .ok (.iconst 1, 1) := by decide +kernel
theorem dX11_feed_102 : decode cX11_feed 102 = .ok (.iadd, 1) := by decide +kernel
theorem dX11_feed_103 : decode cX11_feed 103 = .ok (.putfield 95, 3) := by decide +kernel
theorem dX11_feed_106 : decode cX11_feed 106 = .ok (.iinc 6 1, 3) := by decide +kernel
theorem dX11_feed_109 : decode cX11_feed 109 = .ok (.goto (-91), 3) := by decide +kernel
theorem dX11_feed_112 : decode cX11_feed 112 = .ok (.aload_n 0, 1) := by decide +kernel
theorem dX11_feed_113 : decode cX11_feed 113 = .ok (.getfield 95, 3) := by decide +kernel
theorem dX11_feed_116 : decode cX11_feed 116 = .ok (.ireturn, 1) := by decide +kernel
theorem dX11_end_0 : decode cX11_end 0 = .ok (.iload_n 1, 1) := by decide +kernel
theorem dX11_end_1 : decode cX11_end 1 = .ok (.iconst 0, 1) := by decide +kernel
theorem dX11_end_2 : decode cX11_end 2 = .ok (.aload_n 0, 1) := by decide +kernel
theorem dX11_end_3 : decode cX11_end 3 = .ok (.getfield 95, 3) := by decide +kernel
theorem dX11_end_6 : decode cX11_end 6 = .ok (.invokestatic 98, 3) := by decide +kernel
theorem dX11_end_9 : decode cX11_end 9 = .ok (.ifCond .ne 5, 3) := by decide +kernel
theorem dX11_end_12 : decode cX11_end 12 = .ok (.iconst 0, 1) := by decide +kernel
theorem dX11_end_13 : decode cX11_end 13 = .ok (.ireturn, 1) := by decide +kernel
theorem dX11_end_14 : decode cX11_end 14 = .ok (.aload_n 0, 1) := by decide +kernel
theorem dX11_end_15 : decode cX11_end 15 = .ok (.iload_n 1, 1) := by decide +kernel
theorem dX11_end_16 : decode cX11_end 16 = .ok (.putfield 95, 3) := by decide +kernel
theorem dX11_end_19 : decode cX11_end 19 = .ok (.iconst 1, 1) := by decide +kernel
theorem dX11_end_20 : decode cX11_end 20 = .ok (.ireturn, 1) := by decide +kernel
theorem dX11_isLetter_0 : decode cX11_isLetter 0 = .ok (.iload_n 0, 1) := by decide +kernel
theorem dX11_isLetter_1 : decode cX11_isLetter 1 = .ok (.bipush 97, 2) := by decide +kernel
theorem dX11_isLetter_3 : decode cX11_isLetter 3 = .ok (.if_icmp .lt 13, 3) := by decide +kernel
theorem dX11_isLetter_6 : decode cX11_isLetter 6 = .ok (.iload_n 0, 1) := by decide +kernel
theorem dX11_isLetter_7 : decode cX11_isLetter 7 = .ok (.bipush 122, 2) := by decide +kernel
theorem dX11_isLetter_9 : decode cX11_isLetter 9 = .ok (.if_icmp .gt 7, 3) := by decide +kernel
theorem dX11_isLetter_12 : decode cX11_isLetter 12 = .ok (.iconst 1, 1) := by decide +kernel
theorem dX11_isLetter_13 : decode cX11_isLetter 13 = .ok (.goto 4, 3) := by decide +kernel
theorem dX11_isLetter_16 : decode cX11_isLetter 16 = .ok (.iconst 0, 1) := by decide +kernel
theorem dX11_isLetter_17 : decode cX11_isLetter 17 = .ok (.ireturn, 1) := by decide +kernel
theorem dX11_isDigit_0 : decode cX11_isDigit 0 = .ok (.iload_n 0, 1) := by decide +kernel
theorem dX11_isDigit_1 : decode cX11_isDigit 1 = .ok (.bipush 48, 2) := by decide +kernel
theorem dX11_isDigit_3 : decode cX11_isDigit 3 = .ok (.if_icmp .lt 13, 3) := by decide +kernel
theorem dX11_isDigit_6 : decode cX11_isDigit 6 = .ok (.iload_n 0, 1) := by decide +kernel
theorem dX11_isDigit_7 : decode cX11_isDigit 7 = .ok (.bipush 57, 2) := by decide +kernel
theorem dX11_isDigit_9 : decode cX11_isDigit 9 = .ok (.if_icmp .gt 7, 3) := by decide +kernel
theorem dX11_isDigit_12 : decode cX11_isDigit 12 = .ok (.iconst 1, 1) := by decide +kernel
theorem dX11_isDigit_13 : decode cX11_isDigit 13 = .ok (.goto 4, 3) := by decide +kernel
theorem dX11_isDigit_16 : decode cX11_isDigit 16 = .ok (.iconst 0, 1) := by decide +kernel
theorem dX11_isDigit_17 : decode cX11_isDigit 17 = .ok (.ireturn, 1) := by decide +kernel
theorem dX11_next_0 : decode cX11_next 0 = .ok (.aload_n 0, 1) := by decide +kernel
theorem dX11_next_1 : decode cX11_next 1 = .ok (.getfield 102, 3) := by decide +kernel
theorem dX11_next_4 : decode cX11_next 4 = .ok (.aload_n 0, 1) := by decide +kernel
theorem dX11_next_5 : decode cX11_next 5 = .ok (.getfield 95, 3) := by decide +kernel
theorem dX11_next_8 : decode cX11_next 8 = .ok (.if_icmp .ge 44, 3) := by decide +kernel
theorem dX11_next_11 : decode cX11_next 11 = .ok (.aload_n 0, 1) := by decide +kernel
theorem dX11_next_12 : decode cX11_next 12 = .ok (.getfield 9, 3) := by decide +kernel
theorem dX11_next_15 : decode cX11_next 15 = .ok (.aload_n 0, 1) := by decide +kernel
theorem dX11_next_16 : decode cX11_next 16 = .ok (.getfield 102, 3) := by decide +kernel
theorem dX11_next_19 : decode cX11_next 19 = .ok (.baload, 1) := by decide +kernel
theorem dX11_next_20 : decode cX11_next 20 = .ok (.bipush 32, 2) := by decide +kernel
theorem dX11_next_22 : decode cX11_next 22 = .ok (.if_icmp .eq 17, 3) := by decide +kernel
theorem dX11_next_25 : decode cX11_next 25 = .ok (.aload_n 0, 1) := by decide +kernel
theorem dX11_next_26 : decode cX11_next 26 = .ok (.getfield 9, 3) := by decide +kernel
theorem dX11_next_29 : decode cX11_next 29 = .ok (.aload_n 0, 1) := by decide +kernel
theorem dX11_next_30 : decode cX11_next 30 = .ok (.getfield 102, 3) := by decide +kernel
theorem dX11_next_33 : decode cX11_next 33 = .ok (.baload, 1) := by decide +kernel
theorem dX11_next_34 : decode cX11_next 34 = .ok (.bipush 10, 2) := by decide +kernel
theorem dX11_next_36 : decode cX11_next 36 = .ok (.if_icmp .ne 16, 3) := by decide +kernel
theorem dX11_next_39 : decode cX11_next 39 = .ok (.aload_n 0, 1) := by decide +kernel
theorem dX11_next_40 : decode cX11_next 40 = .ok (.dup, 1) := by decide +kernel
theorem dX11_next_41 : decode cX11_next 41 = .ok (.getfield 102, 3) := by decide +kernel
theorem dX11_next_44 : decode cX11_next 44 = .ok (.iconst 1, 1) := by decide +kernel
theorem dX11_next_45 : decode cX11_next 45 = .ok (.iadd, 1) := by decide +kernel
theorem dX11_next_46 : decode cX11_next 46 = .ok (.putfield 102, 3) := by decide +kernel
theorem dX11_next_49 : decode cX11_next 49 = .ok (.goto (-49), 3) := by decide +kernel
theorem dX11_next_52 : decode cX11_next 52 = .ok (.aload_n 0, 1) := by decide +kernel
theorem dX11_next_53 : decode cX11_next 53 = .ok (.aload_n 0, 1) := by decide +kernel
theorem dX11_next_54 : decode cX11_next 54 = .ok (.getfield 102, 3) := by decide +kernel
theorem dX11_next_57 : decode cX11_next 57 = .ok (.putfield 105, 3) := by decide +kernel
theorem dX11_next_60 : decode cX11_next 60 = .ok (.aload_n 0, 1) := by decide +kernel
theorem dX11_next_61 : decode cX11_next 61 = .ok (.lconst 0, 1) := by decide +kernel
theorem dX11_next_62 : decode cX11_next 62 = .ok (.putfield 108, 3) := by decide +kernel
theorem dX11_next_65 : decode cX11_next 65 = .ok (.aload_n 0, 1) := by decide +kernel
theorem dX11_next_66 : decode cX11_next 66 = .ok (.iconst 0, 1) := by decide +kernel
theorem dX11_next_67 : decode cX11_next 67 = .ok (.putfield 112, 3) := by decide +kernel
theorem dX11_next_70 : decode cX11_next 70 = .ok (.aload_n 0, 1) := by decide +kernel
theorem dX11_next_71 : decode cX11_next 71 = .ok (.getfield 102, 3) := by decide +kernel
theorem dX11_next_74 : decode cX11_next 74 = .ok (.aload_n 0, 1) := by decide +kernel
theorem dX11_next_75 : decode cX11_next 75 = .ok (.getfield 95, 3) := by decide +kernel
theorem dX11_next_78 : decode cX11_next 78 = .ok (.if_icmp .ne 4, 3) := by decide +kernel
theorem dX11_next_81 : decode cX11_next 81 = .ok (.return_, 1) := by decide +kernel
theorem dX11_next_82 : decode cX11_next 82 = .ok (.aload_n 0, 1) := by decide +kernel
theorem dX11_next_83 : decode cX11_next 83 = .ok (.getfield 9, 3) := by decide +kernel
theorem dX11_next_86 : decode cX11_next 86 = .ok (.aload_n 0, 1) := by decide +kernel
theorem dX11_next_87 : decode cX11_next 87 = .ok (.getfield 102, 3) := by decide +kernel
theorem dX11_next_90 : decode cX11_next 90 = .ok (.baload, 1) := by decide +kernel
theorem dX11_next_91 : decode cX11_next 91 = .ok (.istore_n 1, 1) := by decide +kernel
theorem dX11_next_92 : decode cX11_next 92 = .ok (.iload_n 1, 1) := by decide +kernel
theorem dX11_next_93 : decode cX11_next 93 = .ok (.invokestatic 115, 3) := by decide +kernel
theorem dX11_next_96 : decode cX11_next 96 = .ok (.ifCond .eq 105, 3) := by decide +kernel
theorem dX11_next_99 : decode cX11_next 99 = .ok (.aload_n 0, 1) := by decide +kernel
theorem dX11_next_100 : decode cX11_next 100 = .ok (.getfield 102, 3) := by decide +kernel
theorem dX11_next_103 : decode cX11_next 103 = .ok (.aload_n 0, 1) := by decide +kernel
theorem dX11_next_104 : decode cX11_next 104 = .ok (.getfield 95, 3) := by decide +kernel
theorem dX11_next_107 : decode cX11_next 107 = .ok (.if_icmp .ge 67, 3) := by decide +kernel
theorem dX11_next_110 : decode cX11_next 110 = .ok (.aload_n 0, 1) := by decide +kernel
theorem dX11_next_111 : decode cX11_next 111 = .ok (.getfield 9, 3) := by decide +kernel
theorem dX11_next_114 : decode cX11_next 114 = .ok (.aload_n 0, 1) := by decide +kernel
theorem dX11_next_115 : decode cX11_next 115 = .ok (.getfield 102, 3) := by decide +kernel
theorem dX11_next_118 : decode cX11_next 118 = .ok (.baload, 1) := by decide +kernel
theorem dX11_next_119 : decode cX11_next 119 = .ok (.invokestatic 115, 3) := by decide +kernel
theorem dX11_next_122 : decode cX11_next 122 = .ok (.ifCond .eq 52, 3) := by decide +kernel
theorem dX11_next_125 : decode cX11_next 125 = .ok (.aload_n 0, 1) := by decide +kernel
theorem dX11_next_126 : decode cX11_next 126 = .ok (.getfield 102, 3) := by decide +kernel
theorem dX11_next_129 : decode cX11_next 129 = .ok (.aload_n 0, 1) := by decide +kernel
theorem dX11_next_130 : decode cX11_next 130 = .ok (.getfield 105, 3) := by decide +kernel
theorem dX11_next_133 : decode cX11_next 133 = .ok (.isub, 1) := by decide +kernel
theorem dX11_next_134 : decode cX11_next 134 = .ok (.bipush 8, 2) := by decide +kernel
theorem dX11_next_136 : decode cX11_next 136 = .ok (.if_icmp .ge 25, 3) := by decide +kernel
theorem dX11_next_139 : decode cX11_next 139 = .ok (.aload_n 0, 1) := by decide +kernel
theorem dX11_next_140 : decode cX11_next 140 = .ok (.aload_n 0, 1) := by decide +kernel
theorem dX11_next_141 : decode cX11_next 141 = .ok (.getfield 108, 3) := by decide +kernel
theorem dX11_next_144 : decode cX11_next 144 = .ok (.bipush 8, 2) := by decide +kernel
theorem dX11_next_146 : decode cX11_next 146 = .ok (.lshl, 1) := by decide +kernel
theorem dX11_next_147 : decode cX11_next 147 = .ok (.aload_n 0, 1) := by decide +kernel
theorem dX11_next_148 : decode cX11_next 148 = .ok (.getfield 9, 3) := by decide +kernel
theorem dX11_next_151 : decode cX11_next 151 = .ok (.aload_n 0, 1) := by decide +kernel
theorem dX11_next_152 : decode cX11_next 152 = .ok (.getfield 102, 3) := by decide +kernel
theorem dX11_next_155 : decode cX11_next 155 = .ok (.baload, 1) := by decide +kernel
theorem dX11_next_156 : decode cX11_next 156 = .ok (.i2l, 1) := by decide +kernel
theorem dX11_next_157 : decode cX11_next 157 = .ok (.lor, 1) := by decide +kernel
theorem dX11_next_158 : decode cX11_next 158 = .ok (.putfield 108, 3) := by decide +kernel
theorem dX11_next_161 : decode cX11_next 161 = .ok (.aload_n 0, 1) := by decide +kernel
theorem dX11_next_162 : decode cX11_next 162 = .ok (.dup, 1) := by decide +kernel
theorem dX11_next_163 : decode cX11_next 163 = .ok (.getfield 102, 3) := by decide +kernel
theorem dX11_next_166 : decode cX11_next 166 = .ok (.iconst 1, 1) := by decide +kernel
theorem dX11_next_167 : decode cX11_next 167 = .ok (.iadd, 1) := by decide +kernel
theorem dX11_next_168 : decode cX11_next 168 = .ok (.putfield 102, 3) := by decide +kernel
theorem dX11_next_171 : decode cX11_next 171 = .ok (.goto (-72), 3) := by decide +kernel
theorem dX11_next_174 : decode cX11_next 174 = .ok (.aload_n 0, 1) := by decide +kernel
theorem dX11_next_175 : decode cX11_next 175 = .ok (.getfield 102, 3) := by decide +kernel
theorem dX11_next_178 : decode cX11_next 178 = .ok (.aload_n 0, 1) := by decide +kernel
theorem dX11_next_179 : decode cX11_next 179 = .ok (.getfield 105, 3) := by decide +kernel
theorem dX11_next_182 : decode cX11_next 182 = .ok (.isub, 1) := by decide +kernel
theorem dX11_next_183 : decode cX11_next 183 = .ok (.bipush 8, 2) := by decide +kernel
theorem dX11_next_185 : decode cX11_next 185 = .ok (.if_icmp .le 8, 3) := by decide +kernel
theorem dX11_next_188 : decode cX11_next 188 = .ok (.aload_n 0, 1) := by decide +kernel
theorem dX11_next_189 : decode cX11_next 189 = .ok (.lconst 0, 1) := by decide +kernel
theorem dX11_next_190 : decode cX11_next 190 = .ok (.putfield 108, 3) := by decide +kernel
theorem dX11_next_193 : decode cX11_next 193 = .ok (.aload_n 0, 1) := by decide +kernel
theorem dX11_next_194 : decode cX11_next 194 = .ok (.iconst 1, 1) := by decide +kernel
theorem dX11_next_195 : decode cX11_next 195 = .ok (.putfield 112, 3) := by decide +kernel
theorem dX11_next_198 : decode cX11_next 198 = .ok (.goto 127, 3) := by decide +kernel
theorem dX11_next_201 : decode cX11_next 201 = .ok (.iload_n 1, 1) := by decide +kernel
theorem dX11_next_202 : decode cX11_next 202 = .ok (.invokestatic 119, 3) := by decide +kernel
theorem dX11_next_205 : decode cX11_next 205 = .ok (.ifCond .eq 95, 3) := by decide +kernel
theorem dX11_next_208 : decode cX11_next 208 = .ok (.aload_n 0, 1) := by decide +kernel
theorem dX11_next_209 : decode cX11_next 209 = .ok (.getfield 102, 3) := by decide +kernel
theorem dX11_next_212 : decode cX11_next 212 = .ok (.aload_n 0, 1) := by decide +kernel
theorem dX11_next_213 : decode cX11_next 213 = .ok (.getfield 95, 3) := by decide +kernel
theorem dX11_next_216 : decode cX11_next 216 = .ok (.if_icmp .ge 76, 3) := by decide +kernel
theorem dX11_next_219 : decode cX11_next 219 = .ok (.aload_n 0, 1) := by decide +kernel
theorem dX11_next_220 : decode cX11_next 220 = .ok (.getfield 9, 3) := by decide +kernel
theorem dX11_next_223 : decode cX11_next 223 = .ok (.aload_n 0, 1) := by decide +kernel
theorem dX11_next_224 : decode cX11_next 224 = .ok (.getfield 102, 3) := by decide +kernel
theorem dX11_next_227 : decode cX11_next 227 = .ok (.baload, 1) := by decide +kernel
theorem dX11_next_228 : decode cX11_next 228 = .ok (.invokestatic 119, 3) := by decide +kernel
theorem dX11_next_231 : decode cX11_next 231 = .ok (.ifCond .eq 61, 3) := by decide +kernel
theorem dX11_next_234 : decode cX11_next 234 = .ok (.aload_n 0, 1) := by decide +kernel
theorem dX11_next_235 : decode cX11_next 235 = .ok (.aload_n 0, 1) := by decide +kernel
theorem dX11_next_236 : decode cX11_next 236 = .ok (.getfield 108, 3) := by decide +kernel
theorem dX11_next_239 : decode cX11_next 239 = .ok (.ldc2_w 122, 3) := by decide +kernel
theorem dX11_next_242 : decode cX11_next 242 = .ok (.lcmp, 1) := by decide +kernel
theorem dX11_next_243 : decode cX11_next 243 = .ok (.ifCond .le 10, 3) := by decide +kernel
theorem dX11_next_246 : decode cX11_next 246 = .ok (.aload_n 0, 1) := by decide +kernel
theorem dX11_next_247 : decode cX11_next 247 = .ok (.getfield 108, 3) := by decide +kernel
theorem dX11_next_250 : decode cX11_next 250 = .ok (.goto 26, 3) := by decide +kernel
theorem dX11_next_253 : decode cX11_next 253 = .ok (.ldc2_w 124, 3) := by decide +kernel
theorem dX11_next_256 : decode cX11_next 256 = .ok (.aload_n 0, 1) := by decide +kernel
theorem dX11_next_257 : decode cX11_next 257 = .ok (.getfield 108, 3) := by decide +kernel
theorem dX11_next_260 : decode cX11_next 260 = .ok (.lmul, 1) := by decide +kernel
theorem dX11_next_261 : decode cX11_next 261 = .ok (.aload_n 0, 1) := by decide +kernel
theorem dX11_next_262 : decode cX11_next 262 = .ok (.getfield 9, 3) := by decide +kernel
theorem dX11_next_265 : decode cX11_next 265 = .ok (.aload_n 0, 1) := by decide +kernel
theorem dX11_next_266 : decode cX11_next 266 = .ok (.getfield 102, 3) := by decide +kernel
theorem dX11_next_269 : decode cX11_next 269 = .ok (.baload, 1) := by decide +kernel
theorem dX11_next_270 : decode cX11_next 270 = .ok (.i2l, 1) := by decide +kernel
theorem dX11_next_271 : decode cX11_next 271 = .ok (.ladd, 1) := by decide +kernel
theorem dX11_next_272 : decode cX11_next 272 = .ok (.ldc2_w 126, 3) := by decide +kernel
theorem dX11_next_275 : decode cX11_next 275 = .ok (.lsub, 1) := by decide +kernel
theorem dX11_next_276 : decode cX11_next 276 = .ok (.putfield 108, 3) := by decide +kernel
theorem dX11_next_279 : decode cX11_next 279 = .ok (.aload_n 0, 1) := by decide +kernel
theorem dX11_next_280 : decode cX11_next 280 = .ok (.dup, 1) := by decide +kernel
theorem dX11_next_281 : decode cX11_next 281 = .ok (.getfield 102, 3) := by decide +kernel
theorem dX11_next_284 : decode cX11_next 284 = .ok (.iconst 1, 1) := by decide +kernel
theorem dX11_next_285 : decode cX11_next 285 = .ok (.iadd, 1) := by decide +kernel
theorem dX11_next_286 : decode cX11_next 286 = .ok (.putfield 102, 3) := by decide +kernel
theorem dX11_next_289 : decode cX11_next 289 = .ok (.goto (-81), 3) := by decide +kernel
theorem dX11_next_292 : decode cX11_next 292 = .ok (.aload_n 0, 1) := by decide +kernel
theorem dX11_next_293 : decode cX11_next 293 = .ok (.iconst 2, 1) := by decide +kernel
theorem dX11_next_294 : decode cX11_next 294 = .ok (.putfield 112, 3) := by decide +kernel
theorem dX11_next_297 : decode cX11_next 297 = .ok (.goto 28, 3) := by decide +kernel
theorem dX11_next_300 : decode cX11_next 300 = .ok (.aload_n 0, 1) := by decide +kernel
theorem dX11_next_301 : decode cX11_next 301 = .ok (.iload_n 1, 1) := by decide +kernel
theorem dX11_next_302 : decode cX11_next 302 = .ok (.bipush 59, 2) := by decide +kernel
theorem dX11_next_304 : decode cX11_next 304 = .ok (.if_icmp .ne 7, 3) := by decide +kernel
theorem dX11_next_307 : decode cX11_next 307 = .ok (.iconst 3, 1) := by decide +kernel
theorem dX11_next_308 : decode cX11_next 308 = .ok (.goto 4, 3) := by decide +kernel
theorem dX11_next_311 : decode cX11_next 311 = .ok (.iconst 4, 1) := by decide +kernel
theorem dX11_next_312 : decode cX11_next 312 = .ok (.putfield 112, 3) := by decide +kernel
theorem dX11_next_315 : decode cX11_next 315 = .ok (.aload_n 0, 1) := by decide +kernel
theorem dX11_next_316 : decode cX11_next 316 = .ok (.dup, 1) := by decide +kernel
theorem dX11_next_317 : decode cX11_next 317 = .ok (.getfield 102, 3) := by decide +kernel
theorem dX11_next_320 : decode cX11_next 320 = .ok (.iconst 1, 1) := by decide +kernel
theorem dX11_next_321 : decode cX11_next 321 = .ok (.iadd, 1) := by decide +kernel
theorem dX11_next_322 : decode cX11_next 322 = .ok (.putfield 102, 3) := by decide +kernel
theorem dX11_next_325 : decode cX11_next 325 = .ok (.return_, 1) := by decide +kernel
theorem dX11_packed_0 : decode cX11_packed 0 = .ok (.lconst 0, 1) := by decide +kernel
theorem dX11_packed_1 : decode cX11_packed 1 = .ok (.lstore_n 1, 1) := by decide +kernel
theorem dX11_packed_2 : decode cX11_packed 2 = .ok (.iconst 0, 1) := by decide +kernel
theorem dX11_packed_3 : decode cX11_packed 3 = .ok (.istore_n 3, 1) := by decide +kernel
theorem dX11_packed_4 : decode cX11_packed 4 = .ok (.iload_n 3, 1) := by decide +kernel
theorem dX11_packed_5 : decode cX11_packed 5 = .ok (.aload_n 0, 1) := by decide +kernel
theorem dX11_packed_6 : decode cX11_packed 6 = .ok (.invokevirtual 128, 3) := by decide +kernel
theorem dX11_packed_9 : decode cX11_packed 9 = .ok (.if_icmp .ge 21, 3) := by decide +kernel
theorem dX11_packed_12 : decode cX11_packed 12 = .ok (.lload_n 1, 1) := by decide +kernel
theorem dX11_packed_13 : decode cX11_packed 13 = .ok (.bipush 8, 2) := by decide +kernel
theorem dX11_packed_15 : decode cX11_packed 15 = .ok (.lshl, 1) := by decide +kernel
theorem dX11_packed_16 : decode cX11_packed 16 = .ok (.aload_n 0, 1) := by decide +kernel
theorem dX11_packed_17 : decode cX11_packed 17 = .ok (.iload_n 3, 1) := by decide +kernel
theorem dX11_packed_18 : decode cX11_packed 18 = .ok (.invokevirtual 134, 3) := by decide +kernel
theorem dX11_packed_21 : decode cX11_packed 21 = .ok (.i2l, 1) := by decide +kernel
theorem dX11_packed_22 : decode cX11_packed 22 = .ok (.lor, 1) := by decide +kernel
theorem dX11_packed_23 : decode cX11_packed 23 = .ok (.lstore_n 1, 1) := by decide +kernel
theorem dX11_packed_24 : decode cX11_packed 24 = .ok (.iinc 3 1, 3) := by decide +kernel
theorem dX11_packed_27 : decode cX11_packed 27 = .ok (.goto (-23), 3) := by decide +kernel
theorem dX11_packed_30 : decode cX11_packed 30 = .ok (.lload_n 1, 1) := by decide +kernel
theorem dX11_packed_31 : decode cX11_packed 31 = .ok (.lreturn, 1) := by decide +kernel
theorem dX11_isWord_0 : decode cX11_isWord 0 = .ok (.aload_n 0, 1) := by decide +kernel
theorem dX11_isWord_1 : decode cX11_isWord 1 = .ok (.getfield 112, 3) := by decide +kernel
theorem dX11_isWord_4 : decode cX11_isWord 4 = .ok (.iconst 1, 1) := by decide +kernel
theorem dX11_isWord_5 : decode cX11_isWord 5 = .ok (.if_icmp .ne 19, 3) := by decide +kernel
theorem dX11_isWord_8 : decode cX11_isWord 8 = .ok (.aload_n 0, 1) := by decide +kernel
theorem dX11_isWord_9 : decode cX11_isWord 9 = .ok (.getfield 108, 3) := by decide +kernel
theorem dX11_isWord_12 : decode cX11_isWord 12 = .ok (.aload_n 1, 1) := by decide +kernel
theorem dX11_isWord_13 : decode cX11_isWord 13 = .ok (.invokestatic 138, 3) := by decide +kernel
theorem dX11_isWord_16 : decode cX11_isWord 16 = .ok (.lcmp, 1) := by decide +kernel
theorem dX11_isWord_17 : decode cX11_isWord 17 = .ok (.ifCond .ne 7, 3) := by decide +kernel
theorem dX11_isWord_20 : decode cX11_isWord 20 = .ok (.iconst 1, 1) := by decide +kernel
theorem dX11_isWord_21 : decode cX11_isWord 21 = .ok (.goto 4, 3) := by decide +kernel
theorem dX11_isWord_24 : decode cX11_isWord 24 = .ok (.iconst 0, 1) := by decide +kernel
theorem dX11_isWord_25 : decode cX11_isWord 25 = .ok (.ireturn, 1) := by decide +kernel
theorem dX11_isName_0 : decode cX11_isName 0 = .ok (.aload_n 0, 1) := by decide +kernel
theorem dX11_isName_1 : decode cX11_isName 1 = .ok (.ldc 142, 2) := by decide +kernel
theorem dX11_isName_3 : decode cX11_isName 3 = .ok (.invokevirtual 144, 3) := by decide +kernel
theorem dX11_isName_6 : decode cX11_isName 6 = .ok (.ifCond .ne 48, 3) := by decide +kernel
theorem dX11_isName_9 : decode cX11_isName 9 = .ok (.aload_n 0, 1) := by decide +kernel
theorem dX11_isName_10 : decode cX11_isName 10 = .ok (.ldc 148, 2) := by decide +kernel
theorem dX11_isName_12 : decode cX11_isName 12 = .ok (.invokevirtual 144, 3) := by decide +kernel
theorem dX11_isName_15 : decode cX11_isName 15 = .ok (.ifCond .ne 39, 3) := by decide +kernel
theorem dX11_isName_18 : decode cX11_isName 18 = .ok (.aload_n 0, 1) := by decide +kernel
theorem dX11_isName_19 : decode cX11_isName 19 = .ok (.ldc 150, 2) := by decide +kernel
theorem dX11_isName_21 : decode cX11_isName 21 = .ok (.invokevirtual 144, 3) := by decide +kernel
theorem dX11_isName_24 : decode cX11_isName 24 = .ok (.ifCond .ne 30, 3) := by decide +kernel
theorem dX11_isName_27 : decode cX11_isName 27 = .ok (.aload_n 0, 1) := by decide +kernel
theorem dX11_isName_28 : decode cX11_isName 28 = .ok (.ldc 152, 2) := by decide +kernel
theorem dX11_isName_30 : decode cX11_isName 30 = .ok (.invokevirtual 144, 3) := by decide +kernel
theorem dX11_isName_33 : decode cX11_isName 33 = .ok (.ifCond .ne 21, 3) := by decide +kernel
theorem dX11_isName_36 : decode cX11_isName 36 = .ok (.aload_n 0, 1) := by decide +kernel
theorem dX11_isName_37 : decode cX11_isName 37 = .ok (.ldc 153, 2) := by decide +kernel
theorem dX11_isName_39 : decode cX11_isName 39 = .ok (.invokevirtual 144, 3) := by decide +kernel
theorem dX11_isName_42 : decode cX11_isName 42 = .ok (.ifCond .ne 12, 3) := by decide +kernel
theorem dX11_isName_45 : decode cX11_isName 45 = .ok (.aload_n 0, 1) := by decide +kernel
theorem dX11_isName_46 : decode cX11_isName 46 = .ok (.ldc 154, 2) := by decide +kernel
theorem dX11_isName_48 : decode cX11_isName 48 = .ok (.invokevirtual 144, 3) := by decide +kernel
theorem dX11_isName_51 : decode cX11_isName 51 = .ok (.ifCond .eq 7, 3) := by decide +kernel
theorem dX11_isName_54 : decode cX11_isName 54 = .ok (.iconst 1, 1) := by decide +kernel
theorem dX11_isName_55 : decode cX11_isName 55 = .ok (.goto 4, 3) := by decide +kernel
theorem dX11_isName_58 : decode cX11_isName 58 = .ok (.iconst 0, 1) := by decide +kernel
theorem dX11_isName_59 : decode cX11_isName 59 = .ok (.istore_n 1, 1) := by decide +kernel
theorem dX11_isName_60 : decode cX11_isName 60 = .ok (.aload_n 0, 1) := by decide +kernel
theorem dX11_isName_61 : decode cX11_isName 61 = .ok (.getfield 112, 3) := by decide +kernel
theorem dX11_isName_64 : decode cX11_isName 64 = .ok (.iconst 1, 1) := by decide +kernel
theorem dX11_isName_65 : decode cX11_isName 65 = .ok (.if_icmp .ne 65, 3) := by decide +kernel
theorem dX11_isName_68 : decode cX11_isName 68 = .ok (.aload_n 0, 1) := by decide +kernel
theorem dX11_isName_69 : decode cX11_isName 69 = .ok (.getfield 108, 3) := by decide +kernel
theorem dX11_isName_72 : decode cX11_isName 72 = .ok (.lconst 0, 1) := by decide +kernel
theorem dX11_isName_73 : decode cX11_isName 73 = .ok (.lcmp, 1) := by decide +kernel
theorem dX11_isName_74 : decode cX11_isName 74 = .ok (.ifCond .eq 56, 3) := by decide +kernel
theorem dX11_isName_77 : decode cX11_isName 77 = .ok (.iload_n 1, 1) := by decide +kernel
theorem dX11_isName_78 : decode cX11_isName 78 = .ok (.ifCond .ne 52, 3) := by decide +kernel
theorem dX11_isName_81 : decode cX11_isName 81 = .ok (.aload_n 0, 1) := by decide +kernel
theorem dX11_isName_82 : decode cX11_isName 82 = .ok (.ldc 155, 2) := by decide +kernel
theorem dX11_isName_84 : decode cX11_isName 84 = .ok (.invokevirtual 144, 3) := by decide +kernel
theorem dX11_isName_87 : decode cX11_isName 87 = .ok (.ifCond .ne 43, 3) := by decide +kernel
theorem dX11_isName_90 : decode cX11_isName 90 = .ok (.aload_n 0, 1) := by decide +kernel
theorem dX11_isName_91 : decode cX11_isName 91 = .ok (.ldc 157, 2) := by decide +kernel
theorem dX11_isName_93 : decode cX11_isName 93 = .ok (.invokevirtual 144, 3) := by decide +kernel
theorem dX11_isName_96 : decode cX11_isName 96 = .ok (.ifCond .ne 34, 3) := by decide +kernel
theorem dX11_isName_99 : decode cX11_isName 99 = .ok (.aload_n 0, 1) := by decide +kernel
theorem dX11_isName_100 : decode cX11_isName 100 = .ok (.ldc 159, 2) := by decide +kernel
theorem dX11_isName_102 : decode cX11_isName 102 = .ok (.invokevirtual 144, 3) := by decide +kernel
theorem dX11_isName_105 : decode cX11_isName 105 = .ok (.ifCond .ne 25, 3) := by decide +kernel
theorem dX11_isName_108 : decode cX11_isName 108 = .ok (.aload_n 0, 1) := by decide +kernel
theorem dX11_isName_109 : decode cX11_isName 109 = .ok (.ldc 161, 2) := by decide +kernel
theorem dX11_isName_111 : decode cX11_isName 111 = .ok (.invokevirtual 144, 3) := by decide +kernel
theorem dX11_isName_114 : decode cX11_isName 114 = .ok (.ifCond .ne 16, 3) := by decide +kernel
theorem dX11_isName_117 : decode cX11_isName 117 = .ok (.aload_n 0, 1) := by decide +kernel
theorem dX11_isName_118 : decode cX11_isName 118 = .ok (.ldc 163, 2) := by decide +kernel
theorem dX11_isName_120 : decode cX11_isName 120 = .ok (.invokevirtual 144, 3) := by decide +kernel
theorem dX11_isName_123 : decode cX11_isName 123 = .ok (.ifCond .ne 7, 3) := by decide +kernel
theorem dX11_isName_126 : decode cX11_isName 126 = .ok (.iconst 1, 1) := by decide +kernel
theorem dX11_isName_127 : decode cX11_isName 127 = .ok (.goto 4, 3) := by decide +kernel
theorem dX11_isName_130 : decode cX11_isName 130 = .ok (.iconst 0, 1) := by decide +kernel
theorem dX11_isName_131 : decode cX11_isName 131 = .ok (.ireturn, 1) := by decide +kernel
theorem dX11_isNumber_0 : decode cX11_isNumber 0 = .ok (.aload_n 0, 1) := by decide +kernel
theorem dX11_isNumber_1 : decode cX11_isNumber 1 = .ok (.getfield 112, 3) := by decide +kernel
theorem dX11_isNumber_4 : decode cX11_isNumber 4 = .ok (.iconst 2, 1) := by decide +kernel
theorem dX11_isNumber_5 : decode cX11_isNumber 5 = .ok (.if_icmp .ne 27, 3) := by decide +kernel
theorem dX11_isNumber_8 : decode cX11_isNumber 8 = .ok (.aload_n 0, 1) := by decide +kernel
theorem dX11_isNumber_9 : decode cX11_isNumber 9 = .ok (.getfield 108, 3) := by decide +kernel
theorem dX11_isNumber_12 : decode cX11_isNumber 12 = .ok (.iload_n 1, 1) := by decide +kernel
theorem dX11_isNumber_13 : decode cX11_isNumber 13 = .ok (.i2l, 1) := by decide +kernel
theorem dX11_isNumber_14 : decode cX11_isNumber 14 = .ok (.lcmp, 1) := by decide +kernel
theorem dX11_isNumber_15 : decode cX11_isNumber 15 = .ok (.ifCond .lt 17, 3) := by decide +kernel
theorem dX11_isNumber_18 : decode cX11_isNumber 18 = .ok (.aload_n 0, 1) := by decide +kernel
theorem dX11_isNumber_19 : decode cX11_isNumber 19 = .ok (.getfield 108, 3) := by decide +kernel
theorem dX11_isNumber_22 : decode cX11_isNumber 22 = .ok (.iload_n 2, 1) := by decide +kernel
theorem dX11_isNumber_23 : decode cX11_isNumber 23 = .ok (.i2l, 1) := by decide +kernel
theorem dX11_isNumber_24 : decode cX11_isNumber 24 = .ok (.lcmp, 1) := by decide +kernel
theorem dX11_isNumber_25 : decode cX11_isNumber 25 = .ok (.ifCond .gt 7, 3) := by decide +kernel
theorem dX11_isNumber_28 : decode cX11_isNumber 28 = .ok (.iconst 1, 1) := by decide +kernel
theorem dX11_isNumber_29 : decode cX11_isNumber 29 = .ok (.goto 4, 3) := by decide +kernel
theorem dX11_isNumber_32 : decode cX11_isNumber 32 = .ok (.iconst 0, 1) := by decide +kernel
theorem dX11_isNumber_33 : decode cX11_isNumber 33 = .ok (.ireturn, 1) := by decide +kernel
theorem dX11_word_0 : decode cX11_word 0 = .ok (.aload_n 0, 1) := by decide +kernel
theorem dX11_word_1 : decode cX11_word 1 = .ok (.aload_n 1, 1) := by decide +kernel
theorem dX11_word_2 : decode cX11_word 2 = .ok (.invokevirtual 144, 3) := by decide +kernel
theorem dX11_word_5 : decode cX11_word 5 = .ok (.ifCond .ne 5, 3) := by decide +kernel
theorem dX11_word_8 : decode cX11_word 8 = .ok (.iconst 0, 1) := by decide +kernel
theorem dX11_word_9 : decode cX11_word 9 = .ok (.ireturn, 1) := by decide +kernel
theorem dX11_word_10 : decode cX11_word 10 = .ok (.aload_n 0, 1) := by decide +kernel
theorem dX11_word_11 : decode cX11_word 11 = .ok (.invokevirtual 165, 3) := by decide +kernel
theorem dX11_word_14 : decode cX11_word 14 = .ok (.iconst 1, 1) := by decide +kernel
theorem dX11_word_15 : decode cX11_word 15 = .ok (.ireturn, 1) := by decide +kernel
theorem dX11_closes_0 : decode cX11_closes 0 = .ok (.aload_n 0, 1) := by decide +kernel
theorem dX11_closes_1 : decode cX11_closes 1 = .ok (.getfield 112, 3) := by decide +kernel
theorem dX11_closes_4 : decode cX11_closes 4 = .ok (.iconst 3, 1) := by decide +kernel
theorem dX11_closes_5 : decode cX11_closes 5 = .ok (.if_icmp .eq 5, 3) := by decide +kernel
theorem dX11_closes_8 : decode cX11_closes 8 = .ok (.iconst 0, 1) := by decide +kernel
theorem dX11_closes_9 : decode cX11_closes 9 = .ok (.ireturn, 1) := by decide +kernel
theorem dX11_closes_10 : decode cX11_closes 10 = .ok (.aload_n 0, 1) := by decide +kernel
theorem dX11_closes_11 : decode cX11_closes 11 = .ok (.invokevirtual 165, 3) := by decide +kernel
theorem dX11_closes_14 : decode cX11_closes 14 = .ok (.iconst 1, 1) := by decide +kernel
theorem dX11_closes_15 : decode cX11_closes 15 = .ok (.ireturn, 1) := by decide +kernel
theorem dX11_named_0 : decode cX11_named 0 = .ok (.iconst 0, 1) := by decide +kernel
theorem dX11_named_1 : decode cX11_named 1 = .ok (.istore_n 1, 1) := by decide +kernel
theorem dX11_named_2 : decode cX11_named 2 = .ok (.iload_n 1, 1) := by decide +kernel
theorem dX11_named_3 : decode cX11_named 3 = .ok (.aload_n 0, 1) := by decide +kernel
theorem dX11_named_4 : decode cX11_named 4 = .ok (.getfield 168, 3) := by decide +kernel
theorem dX11_named_7 : decode cX11_named 7 = .ok (.if_icmp .ge 32, 3) := by decide +kernel
theorem dX11_named_10 : decode cX11_named 10 = .ok (.aload_n 0, 1) := by decide +kernel
theorem dX11_named_11 : decode cX11_named 11 = .ok (.invokevirtual 171, 3) := by decide +kernel
theorem dX11_named_14 : decode cX11_named 14 = .ok (.ifCond .eq 25, 3) := by decide +kernel
theorem dX11_named_17 : decode cX11_named 17 = .ok (.aload_n 0, 1) := by decide +kernel
theorem dX11_named_18 : decode cX11_named 18 = .ok (.getfield 13, 3) := by decide +kernel
theorem dX11_named_21 : decode cX11_named 21 = .ok (.iload_n 1, 1) := by decide +kernel
theorem dX11_named_22 : decode cX11_named 22 = .ok (.laload, 1) := by decide +kernel
theorem dX11_named_23 : decode cX11_named 23 = .ok (.aload_n 0, 1) := by decide +kernel
theorem dX11_named_24 : decode cX11_named 24 = .ok (.getfield 108, 3) := by decide +kernel
theorem dX11_named_27 : decode cX11_named 27 = .ok (.lcmp, 1) := by decide +kernel
theorem dX11_named_28 : decode cX11_named 28 = .ok (.ifCond .ne 5, 3) := by decide +kernel
theorem dX11_named_31 : decode cX11_named 31 = .ok (.iload_n 1, 1) := by decide +kernel
theorem dX11_named_32 : decode cX11_named 32 = .ok (.ireturn, 1) := by decide +kernel
theorem dX11_named_33 : decode cX11_named 33 = .ok (.iinc 1 1, 3) := by decide +kernel
theorem dX11_named_36 : decode cX11_named 36 = .ok (.goto (-34), 3) := by decide +kernel
theorem dX11_named_39 : decode cX11_named 39 = .ok (.iconst (-1), 1) := by decide +kernel
theorem dX11_named_40 : decode cX11_named 40 = .ok (.ireturn, 1) := by decide +kernel
theorem dX11_pointLine_0 : decode cX11_pointLine 0 = .ok (.aload_n 0, 1) := by decide +kernel
theorem dX11_pointLine_1 : decode cX11_pointLine 1 = .ok (.getfield 168, 3) := by decide +kernel
theorem dX11_pointLine_4 : decode cX11_pointLine 4 = .ok (.bipush 12, 2) := by decide +kernel
theorem dX11_pointLine_6 : decode cX11_pointLine 6 = .ok (.if_icmp .ne 5, 3) := by decide +kernel
theorem dX11_pointLine_9 : decode cX11_pointLine 9 = .ok (.iconst 0, 1) := by decide +kernel
theorem dX11_pointLine_10 : decode cX11_pointLine 10 = .ok (.ireturn, 1) := by decide +kernel
theorem dX11_pointLine_11 : decode cX11_pointLine 11 = .ok (.aload_n 0, 1) := by decide +kernel
theorem dX11_pointLine_12 : decode cX11_pointLine 12 = .ok (.invokevirtual 165, 3) := by decide +kernel
theorem dX11_pointLine_15 : decode cX11_pointLine 15 = .ok (.aload_n 0, 1) := by decide +kernel
theorem dX11_pointLine_16 : decode cX11_pointLine 16 = .ok (.invokevirtual 171, 3) := by decide +kernel
theorem dX11_pointLine_19 : decode cX11_pointLine 19 = .ok (.ifCond .eq 11, 3) := by decide +kernel
theorem dX11_pointLine_22 : decode cX11_pointLine 22 = .ok (.aload_n 0, 1) := by decide +kernel
theorem dX11_pointLine_23 : decode cX11_pointLine 23 = .ok (.invokevirtual 175, 3) := by decide +kernel
theorem dX11_pointLine_26 : decode cX11_pointLine 26 = .ok (.iconst (-1), 1) := by decide +kernel
theorem dX11_pointLine_27 : decode cX11_pointLine 27 = .ok (.if_icmp .eq 5, 3) := by decide +kernel
theorem dX11_pointLine_30 : decode cX11_pointLine 30 = .ok (.iconst 0, 1) := by decide +kernel
theorem dX11_pointLine_31 : decode cX11_pointLine 31 = .ok (.ireturn, 1) := by decide +kernel
theorem dX11_pointLine_32 : decode cX11_pointLine 32 = .ok (.aload_n 0, 1) := by decide +kernel
theorem dX11_pointLine_33 : decode cX11_pointLine 33 = .ok (.getfield 13, 3) := by decide +kernel
theorem dX11_pointLine_36 : decode cX11_pointLine 36 = .ok (.aload_n 0, 1) := by decide +kernel
theorem dX11_pointLine_37 : decode cX11_pointLine 37 = .ok (.getfield 168, 3) := by decide +kernel
theorem dX11_pointLine_40 : decode cX11_pointLine 40 = .ok (.aload_n 0, 1) := by decide +kernel
theorem dX11_pointLine_41 : decode cX11_pointLine 41 = .ok (.getfield 108, 3) := by decide +kernel
theorem dX11_pointLine_44 : decode cX11_pointLine 44 = .ok (.lastore, 1) := by decide +kernel
theorem dX11_pointLine_45 : decode cX11_pointLine 45 = .ok (.aload_n 0, 1) := by decide +kernel
theorem dX11_pointLine_46 : decode cX11_pointLine 46 = .ok (.invokevirtual 165, 3) := by decide +kernel
theorem dX11_pointLine_49 : decode cX11_pointLine 49 = .ok (.aload_n 0, 1) := by decide +kernel
theorem dX11_pointLine_50 : decode cX11_pointLine 50 = .ok (.getfield 17, 3) := by decide +kernel
theorem dX11_pointLine_53 : decode cX11_pointLine 53 = .ok (.aload_n 0, 1) := by decide +kernel
theorem dX11_pointLine_54 : decode cX11_pointLine 54 = .ok (.getfield 168, 3) := by decide +kernel
theorem dX11_pointLine_57 : decode cX11_pointLine 57 = .ok (.aload_n 0, 1) := by decide +kernel
theorem dX11_pointLine_58 : decode cX11_pointLine 58 = .ok (.ldc 150, 2) := by decide +kernel
theorem dX11_pointLine_60 : decode cX11_pointLine 60 = .ok (.invokevirtual 144, 3) := by decide +kernel
theorem dX11_pointLine_63 : decode cX11_pointLine 63 = .ok (.bastore, 1) := by decide +kernel
theorem dX11_pointLine_64 : decode cX11_pointLine 64 = .ok (.aload_n 0, 1) := by decide +kernel
theorem dX11_pointLine_65 : decode cX11_pointLine 65 = .ok (.ldc 148, 2) := by decide +kernel
theorem dX11_pointLine_67 : decode cX11_pointLine 67 = .ok (.invokevirtual 144, 3) := by decide +kernel
theorem dX11_pointLine_70 : decode cX11_pointLine 70 = .ok (.ifCond .ne 14, 3) := by decide +kernel
theorem dX11_pointLine_73 : decode cX11_pointLine 73 = .ok (.aload_n 0, 1) := by decide +kernel
theorem dX11_pointLine_74 : decode cX11_pointLine 74 = .ok (.ldc 150, 2) := by decide +kernel
theorem dX11_pointLine_76 : decode cX11_pointLine 76 = .ok (.invokevirtual 144, 3) := by decide +kernel
theorem dX11_pointLine_79 : decode cX11_pointLine 79 = .ok (.ifCond .ne 5, 3) := by decide +kernel
theorem dX11_pointLine_82 : decode cX11_pointLine 82 = .ok (.iconst 0, 1) := by decide +kernel
theorem dX11_pointLine_83 : decode cX11_pointLine 83 = .ok (.ireturn, 1) := by decide +kernel
theorem dX11_pointLine_84 : decode cX11_pointLine 84 = .ok (.aload_n 0, 1) := by decide +kernel
theorem dX11_pointLine_85 : decode cX11_pointLine 85 = .ok (.dup, 1) := by decide +kernel
theorem dX11_pointLine_86 : decode cX11_pointLine 86 = .ok (.getfield 168, 3) := by decide +kernel
theorem dX11_pointLine_89 : decode cX11_pointLine 89 = .ok (.iconst 1, 1) := by decide +kernel
theorem dX11_pointLine_90 : decode cX11_pointLine 90 = .ok (.iadd, 1) := by decide +kernel
theorem dX11_pointLine_91 : decode cX11_pointLine 91 = .ok (.putfield 168, 3) := by decide +kernel
theorem dX11_pointLine_94 : decode cX11_pointLine 94 = .ok (.aload_n 0, 1) := by decide +kernel
theorem dX11_pointLine_95 : decode cX11_pointLine 95 = .ok (.invokevirtual 165, 3) := by decide +kernel
theorem dX11_pointLine_98 : decode cX11_pointLine 98 = .ok (.aload_n 0, 1) := by decide +kernel
theorem dX11_pointLine_99 : decode cX11_pointLine 99 = .ok (.invokevirtual 178, 3) := by decide +kernel
theorem dX11_pointLine_102 : decode cX11_pointLine 102 = .ok (.ireturn, 1) := by decide +kernel
theorem dX11_arcLine_0 : decode cX11_arcLine 0 = .ok (.aload_n 0, 1) := by decide +kernel
theorem dX11_arcLine_1 : decode cX11_arcLine 1 = .ok (.getfield 181, 3) := by decide +kernel
theorem dX11_arcLine_4 : decode cX11_arcLine 4 = .ok (.bipush 24, 2) := by decide +kernel
theorem dX11_arcLine_6 : decode cX11_arcLine 6 = .ok (.if_icmp .ne 5, 3) := by decide +kernel
theorem dX11_arcLine_9 : decode cX11_arcLine 9 = .ok (.iconst 0, 1) := by decide +kernel
theorem dX11_arcLine_10 : decode cX11_arcLine 10 = .ok (.ireturn, 1) := by decide +kernel
theorem dX11_arcLine_11 : decode cX11_arcLine 11 = .ok (.aload_n 0, 1) := by decide +kernel
theorem dX11_arcLine_12 : decode cX11_arcLine 12 = .ok (.invokevirtual 165, 3) := by decide +kernel
theorem dX11_arcLine_15 : decode cX11_arcLine 15 = .ok (.aload_n 0, 1) := by decide +kernel
theorem dX11_arcLine_16 : decode cX11_arcLine 16 = .ok (.getfield 21, 3) := by decide +kernel
theorem dX11_arcLine_19 : decode cX11_arcLine 19 = .ok (.aload_n 0, 1) := by decide +kernel
theorem dX11_arcLine_20 : decode cX11_arcLine 20 = .ok (.getfield 181, 3) := by decide +kernel
theorem dX11_arcLine_23 : decode cX11_arcLine 23 = .ok (.aload_n 0, 1) := by decide +kernel
theorem dX11_arcLine_24 : decode cX11_arcLine 24 = .ok (.invokevirtual 175, 3) := by decide +kernel
theorem dX11_arcLine_27 : decode cX11_arcLine 27 = .ok (.iastore, 1) := by decide +kernel
theorem dX11_arcLine_28 : decode cX11_arcLine 28 = .ok (.aload_n 0, 1) := by decide +kernel
theorem dX11_arcLine_29 : decode cX11_arcLine 29 = .ok (.getfield 21, 3) := by decide +kernel
theorem dX11_arcLine_32 : decode cX11_arcLine 32 = .ok (.aload_n 0, 1) := by decide +kernel
theorem dX11_arcLine_33 : decode cX11_arcLine 33 = .ok (.getfield 181, 3) := by decide +kernel
theorem dX11_arcLine_36 : decode cX11_arcLine 36 = .ok (.iaload, 1) := by decide +kernel
theorem dX11_arcLine_37 : decode cX11_arcLine 37 = .ok (.iconst (-1), 1) := by decide +kernel
theorem dX11_arcLine_38 : decode cX11_arcLine 38 = .ok (.if_icmp .ne 5, 3) := by decide +kernel
theorem dX11_arcLine_41 : decode cX11_arcLine 41 = .ok (.iconst 0, 1) := by decide +kernel
theorem dX11_arcLine_42 : decode cX11_arcLine 42 = .ok (.ireturn, 1) := by decide +kernel
theorem dX11_arcLine_43 : decode cX11_arcLine 43 = .ok (.aload_n 0, 1) := by decide +kernel
theorem dX11_arcLine_44 : decode cX11_arcLine 44 = .ok (.invokevirtual 165, 3) := by decide +kernel
theorem dX11_arcLine_47 : decode cX11_arcLine 47 = .ok (.aload_n 0, 1) := by decide +kernel
theorem dX11_arcLine_48 : decode cX11_arcLine 48 = .ok (.ldc 153, 2) := by decide +kernel
theorem dX11_arcLine_50 : decode cX11_arcLine 50 = .ok (.invokevirtual 184, 3) := by decide +kernel
theorem dX11_arcLine_53 : decode cX11_arcLine 53 = .ok (.ifCond .ne 5, 3) := by decide +kernel
theorem dX11_arcLine_56 : decode cX11_arcLine 56 = .ok (.iconst 0, 1) := by decide +kernel
theorem dX11_arcLine_57 : decode cX11_arcLine 57 = .ok (.ireturn, 1) := by decide +kernel
theorem dX11_arcLine_58 : decode cX11_arcLine 58 = .ok (.aload_n 0, 1) := by decide +kernel
theorem dX11_arcLine_59 : decode cX11_arcLine 59 = .ok (.getfield 25, 3) := by decide +kernel
theorem dX11_arcLine_62 : decode cX11_arcLine 62 = .ok (.aload_n 0, 1) := by decide +kernel
theorem dX11_arcLine_63 : decode cX11_arcLine 63 = .ok (.getfield 181, 3) := by decide +kernel
theorem dX11_arcLine_66 : decode cX11_arcLine 66 = .ok (.aload_n 0, 1) := by decide +kernel
theorem dX11_arcLine_67 : decode cX11_arcLine 67 = .ok (.invokevirtual 175, 3) := by decide +kernel
theorem dX11_arcLine_70 : decode cX11_arcLine 70 = .ok (.iastore, 1) := by decide +kernel
theorem dX11_arcLine_71 : decode cX11_arcLine 71 = .ok (.aload_n 0, 1) := by decide +kernel
theorem dX11_arcLine_72 : decode cX11_arcLine 72 = .ok (.getfield 25, 3) := by decide +kernel
theorem dX11_arcLine_75 : decode cX11_arcLine 75 = .ok (.aload_n 0, 1) := by decide +kernel
theorem dX11_arcLine_76 : decode cX11_arcLine 76 = .ok (.getfield 181, 3) := by decide +kernel
theorem dX11_arcLine_79 : decode cX11_arcLine 79 = .ok (.iaload, 1) := by decide +kernel
theorem dX11_arcLine_80 : decode cX11_arcLine 80 = .ok (.iconst (-1), 1) := by decide +kernel
theorem dX11_arcLine_81 : decode cX11_arcLine 81 = .ok (.if_icmp .ne 5, 3) := by decide +kernel
theorem dX11_arcLine_84 : decode cX11_arcLine 84 = .ok (.iconst 0, 1) := by decide +kernel
theorem dX11_arcLine_85 : decode cX11_arcLine 85 = .ok (.ireturn, 1) := by decide +kernel
theorem dX11_arcLine_86 : decode cX11_arcLine 86 = .ok (.aload_n 0, 1) := by decide +kernel
theorem dX11_arcLine_87 : decode cX11_arcLine 87 = .ok (.invokevirtual 165, 3) := by decide +kernel
theorem dX11_arcLine_90 : decode cX11_arcLine 90 = .ok (.aload_n 0, 1) := by decide +kernel
theorem dX11_arcLine_91 : decode cX11_arcLine 91 = .ok (.ldc 154, 2) := by decide +kernel
theorem dX11_arcLine_93 : decode cX11_arcLine 93 = .ok (.invokevirtual 184, 3) := by decide +kernel
theorem dX11_arcLine_96 : decode cX11_arcLine 96 = .ok (.ifCond .eq 13, 3) := by decide +kernel
theorem dX11_arcLine_99 : decode cX11_arcLine 99 = .ok (.aload_n 0, 1) := by decide +kernel
theorem dX11_arcLine_100 : decode cX11_arcLine 100 = .ok (.iconst 0, 1) := by decide +kernel
theorem dX11_arcLine_101 : decode cX11_arcLine 101 = .ok (.bipush 60, 2) := by decide +kernel
theorem dX11_arcLine_103 : decode cX11_arcLine 103 = .ok (.invokevirtual 187, 3) := by decide +kernel
theorem dX11_arcLine_106 : decode cX11_arcLine 106 = .ok (.ifCond .ne 5, 3) := by decide +kernel
theorem dX11_arcLine_109 : decode cX11_arcLine 109 = .ok (.iconst 0, 1) := by decide +kernel
theorem dX11_arcLine_110 : decode cX11_arcLine 110 = .ok (.ireturn, 1) := by decide +kernel
theorem dX11_arcLine_111 : decode cX11_arcLine 111 = .ok (.aload_n 0, 1) := by decide +kernel
theorem dX11_arcLine_112 : decode cX11_arcLine 112 = .ok (.getfield 28, 3) := by decide +kernel
theorem dX11_arcLine_115 : decode cX11_arcLine 115 = .ok (.aload_n 0, 1) := by decide +kernel
theorem dX11_arcLine_116 : decode cX11_arcLine 116 = .ok (.getfield 181, 3) := by decide +kernel
theorem dX11_arcLine_119 : decode cX11_arcLine 119 = .ok (.aload_n 0, 1) := by decide +kernel
theorem dX11_arcLine_120 : decode cX11_arcLine 120 = .ok (.getfield 108, 3) := by decide +kernel
theorem dX11_arcLine_123 : decode cX11_arcLine 123 = .ok (.l2i, 1) := by decide +kernel
theorem dX11_arcLine_124 : decode cX11_arcLine 124 = .ok (.iastore, 1) := by decide +kernel
theorem dX11_arcLine_125 : decode cX11_arcLine 125 = .ok (.aload_n 0, 1) := by decide +kernel
theorem dX11_arcLine_126 : decode cX11_arcLine 126 = .ok (.dup, 1) := by decide +kernel
theorem dX11_arcLine_127 : decode cX11_arcLine 127 = .ok (.getfield 181, 3) := by decide +kernel
theorem dX11_arcLine_130 : decode cX11_arcLine 130 = .ok (.iconst 1, 1) := by decide +kernel
theorem dX11_arcLine_131 : decode cX11_arcLine 131 = .ok (.iadd, 1) := by decide +kernel
theorem dX11_arcLine_132 : decode cX11_arcLine 132 = .ok (.putfield 181, 3) := by decide +kernel
theorem dX11_arcLine_135 : decode cX11_arcLine 135 = .ok (.aload_n 0, 1) := by decide +kernel
theorem dX11_arcLine_136 : decode cX11_arcLine 136 = .ok (.invokevirtual 165, 3) := by decide +kernel
theorem dX11_arcLine_139 : decode cX11_arcLine 139 = .ok (.aload_n 0, 1) := by decide +kernel
theorem dX11_arcLine_140 : decode cX11_arcLine 140 = .ok (.invokevirtual 178, 3) := by decide +kernel
theorem dX11_arcLine_143 : decode cX11_arcLine 143 = .ok (.ireturn, 1) := by decide +kernel
theorem dX11_windowLine_0 : decode cX11_windowLine 0 = .ok (.aload_n 0, 1) := by decide +kernel
theorem dX11_windowLine_1 : decode cX11_windowLine 1 = .ok (.getfield 191, 3) := by decide +kernel
theorem dX11_windowLine_4 : decode cX11_windowLine 4 = .ok (.bipush 12, 2) := by decide +kernel
theorem dX11_windowLine_6 : decode cX11_windowLine 6 = .ok (.if_icmp .ne 5, 3) := by decide +kernel
theorem dX11_windowLine_9 : decode cX11_windowLine 9 = .ok (.iconst 0, 1) := by decide +kernel
theorem dX11_windowLine_10 : decode cX11_windowLine 10 = .ok (.ireturn, 1) := by decide +kernel
theorem dX11_windowLine_11 : decode cX11_windowLine 11 = .ok (.aload_n 0, 1) := by decide +kernel
theorem dX11_windowLine_12 : decode cX11_windowLine 12 = .ok (.invokevirtual 165, 3) := by decide +kernel
theorem dX11_windowLine_15 : decode cX11_windowLine 15 = .ok (.aload_n 0, 1) := by decide +kernel
theorem dX11_windowLine_16 : decode cX11_windowLine 16 = .ok (.getfield 31, 3) := by decide +kernel
theorem dX11_windowLine_19 : decode cX11_windowLine 19 = .ok (.aload_n 0, 1) := by decide +kernel
theorem dX11_windowLine_20 : decode cX11_windowLine 20 = .ok (.getfield 191, 3) := by decide +kernel
theorem dX11_windowLine_23 : decode cX11_windowLine 23 = .ok (.aload_n 0, 1) := by decide +kernel
theorem dX11_windowLine_24 : decode cX11_windowLine 24 = .ok (.invokevirtual 175, 3) := by decide +kernel
theorem dX11_windowLine_27 : decode cX11_windowLine 27 = .ok (.iastore, 1) := by decide +kernel
theorem dX11_windowLine_28 : decode cX11_windowLine 28 = .ok (.aload_n 0, 1) := by decide +kernel
theorem dX11_windowLine_29 : decode cX11_windowLine 29 = .ok (.getfield 31, 3) := by decide +kernel
theorem dX11_windowLine_32 : decode cX11_windowLine 32 = .ok (.aload_n 0, 1) := by decide +kernel
theorem dX11_windowLine_33 : decode cX11_windowLine 33 = .ok (.getfield 191, 3) := by decide +kernel
theorem dX11_windowLine_36 : decode cX11_windowLine 36 = .ok (.iaload, 1) := by decide +kernel
theorem dX11_windowLine_37 : decode cX11_windowLine 37 = .ok (.iconst (-1), 1) := by decide +kernel
theorem dX11_windowLine_38 : decode cX11_windowLine 38 = .ok (.if_icmp .ne 5, 3) := by decide +kernel
theorem dX11_windowLine_41 : decode cX11_windowLine 41 = .ok (.iconst 0, 1) := by decide +kernel
theorem dX11_windowLine_42 : decode cX11_windowLine 42 = .ok (.ireturn, 1) := by decide +kernel
theorem dX11_windowLine_43 : decode cX11_windowLine 43 = .ok (.aload_n 0, 1) := by decide +kernel
theorem dX11_windowLine_44 : decode cX11_windowLine 44 = .ok (.invokevirtual 165, 3) := by decide +kernel
theorem dX11_windowLine_47 : decode cX11_windowLine 47 = .ok (.iconst 0, 1) := by decide +kernel
theorem dX11_windowLine_48 : decode cX11_windowLine 48 = .ok (.istore_n 1, 1) := by decide +kernel
theorem dX11_windowLine_49 : decode cX11_windowLine 49 = .ok (.iload_n 1, 1) := by decide +kernel
theorem dX11_windowLine_50 : decode cX11_windowLine 50 = .ok (.ifCond .eq 16, 3) := by decide +kernel
theorem dX11_windowLine_53 : decode cX11_windowLine 53 = .ok (.iload_n 1, 1) := by decide +kernel
theorem dX11_windowLine_54 : decode cX11_windowLine 54 = .ok (.iconst 3, 1) := by decide +kernel
theorem dX11_windowLine_55 : decode cX11_windowLine 55 = .ok (.if_icmp .ge 87, 3) := by decide +kernel
theorem dX11_windowLine_58 : decode cX11_windowLine 58 = .ok (.aload_n 0, 1) := by decide +kernel
theorem dX11_windowLine_59 : decode cX11_windowLine 59 = .ok (.getfield 112, 3) := by decide +kernel
theorem dX11_windowLine_62 : decode cX11_windowLine 62 = .ok (.iconst 2, 1) := by decide +kernel
theorem dX11_windowLine_63 : decode cX11_windowLine 63 = .ok (.if_icmp .ne 79, 3) := by decide +kernel
theorem dX11_windowLine_66 : decode cX11_windowLine 66 = .ok (.aload_n 0, 1) := by decide +kernel
theorem dX11_windowLine_67 : decode cX11_windowLine 67 = .ok (.iconst 0, 1) := by decide +kernel
theorem dX11_windowLine_68 : decode cX11_windowLine 68 = .ok (.bipush 60, 2) := by decide +kernel
theorem dX11_windowLine_70 : decode cX11_windowLine 70 = .ok (.invokevirtual 187, 3) := by decide +kernel
theorem dX11_windowLine_73 : decode cX11_windowLine 73 = .ok (.ifCond .ne 5, 3) := by decide +kernel
theorem dX11_windowLine_76 : decode cX11_windowLine 76 = .ok (.iconst 0, 1) := by decide +kernel
theorem dX11_windowLine_77 : decode cX11_windowLine 77 = .ok (.ireturn, 1) := by decide +kernel
theorem dX11_windowLine_78 : decode cX11_windowLine 78 = .ok (.iload_n 1, 1) := by decide +kernel
theorem dX11_windowLine_79 : decode cX11_windowLine 79 = .ok (.istore_n 2, 1) := by decide +kernel
theorem dX11_windowLine_80 : decode cX11_windowLine 80 = .ok (.iload_n 2, 1) := by decide +kernel
theorem dX11_windowLine_81 : decode cX11_windowLine 81 = .ok (.ifCond .le 40, 3) := by decide +kernel
theorem dX11_windowLine_84 : decode cX11_windowLine 84 = .ok (.aload_n 0, 1) := by decide +kernel
theorem dX11_windowLine_85 : decode cX11_windowLine 85 = .ok (.getfield 80, 3) := by decide +kernel
theorem dX11_windowLine_88 : decode cX11_windowLine 88 = .ok (.iload_n 2, 1) := by decide +kernel
theorem dX11_windowLine_89 : decode cX11_windowLine 89 = .ok (.iconst 1, 1) := by decide +kernel
theorem dX11_windowLine_90 : decode cX11_windowLine 90 = .ok (.isub, 1) := by decide +kernel
theorem dX11_windowLine_91 : decode cX11_windowLine 91 = .ok (.iaload, 1) := by decide +kernel
theorem dX11_windowLine_92 : decode cX11_windowLine 92 = .ok (.i2l, 1) := by decide +kernel
theorem dX11_windowLine_93 : decode cX11_windowLine 93 = .ok (.aload_n 0, 1) := by decide +kernel
theorem dX11_windowLine_94 : decode cX11_windowLine 94 = .ok (.getfield 108, 3) := by decide +kernel
theorem dX11_windowLine_97 : decode cX11_windowLine 97 = .ok (.lcmp, 1) := by decide +kernel
theorem dX11_windowLine_98 : decode cX11_windowLine 98 = .ok (.ifCond .le 23, 3) := by decide +kernel
theorem dX11_windowLine_101 : decode cX11_windowLine 101 = .ok (.aload_n 0, 1) := by decide +kernel
theorem dX11_windowLine_102 : decode cX11_windowLine 102 = .ok (.getfield 80, 3) := by decide +kernel
theorem dX11_windowLine_105 : decode cX11_windowLine 105 = .ok (.iload_n 2, 1) := by decide +kernel
theorem dX11_windowLine_106 : decode cX11_windowLine 106 = .ok (.aload_n 0, 1) := by decide +kernel
theorem dX11_windowLine_107 : decode cX11_windowLine 107 = .ok (.getfield 80, 3) := by decide +kernel
theorem dX11_windowLine_110 : decode cX11_windowLine 110 = .ok (.iload_n 2, 1) := by decide +kernel
theorem dX11_windowLine_111 : decode cX11_windowLine 111 = .ok (.iconst 1, 1) := by decide +kernel
theorem dX11_windowLine_112 : decode cX11_windowLine 112 = .ok (.isub, 1) := by decide +kernel
theorem dX11_windowLine_113 : decode cX11_windowLine 113 = .ok (.iaload, 1) := by decide +kernel
theorem dX11_windowLine_114 : decode cX11_windowLine 114 = .ok (.iastore, 1) := by decide +kernel
theorem dX11_windowLine_115 : decode cX11_windowLine 115 = .ok (.iinc 2 (-1), 3) := by decide +kernel
theorem dX11_windowLine_118 : decode cX11_windowLine 118 = .ok (.goto (-38), 3) := by decide +kernel
theorem dX11_windowLine_121 : decode cX11_windowLine 121 = .ok (.aload_n 0, 1) := by decide +kernel
theorem dX11_windowLine_122 : decode cX11_windowLine 122 = .ok (.getfield 80, 3) := by decide +kernel
theorem dX11_windowLine_125 : decode cX11_windowLine 125 = .ok (.iload_n 2, 1) := by decide +kernel
theorem dX11_windowLine_126 : decode cX11_windowLine 126 = .ok (.aload_n 0, 1) := by decide +kernel
theorem dX11_windowLine_127 : decode cX11_windowLine 127 = .ok (.getfield 108, 3) := by decide +kernel
theorem dX11_windowLine_130 : decode cX11_windowLine 130 = .ok (.l2i, 1) := by decide +kernel
theorem dX11_windowLine_131 : decode cX11_windowLine 131 = .ok (.iastore, 1) := by decide +kernel
theorem dX11_windowLine_132 : decode cX11_windowLine 132 = .ok (.iinc 1 1, 3) := by decide +kernel
theorem dX11_windowLine_135 : decode cX11_windowLine 135 = .ok (.aload_n 0, 1) := by decide +kernel
theorem dX11_windowLine_136 : decode cX11_windowLine 136 = .ok (.invokevirtual 165, 3) := by decide +kernel
theorem dX11_windowLine_139 : decode cX11_windowLine 139 = .ok (.goto (-90), 3) := by decide +kernel
theorem dX11_windowLine_142 : decode cX11_windowLine 142 = .ok (.aload_n 0, 1) := by decide +kernel
theorem dX11_windowLine_143 : decode cX11_windowLine 143 = .ok (.getfield 34, 3) := by decide +kernel
theorem dX11_windowLine_146 : decode cX11_windowLine 146 = .ok (.aload_n 0, 1) := by decide +kernel
theorem dX11_windowLine_147 : decode cX11_windowLine 147 = .ok (.getfield 191, 3) := by decide +kernel
theorem dX11_windowLine_150 : decode cX11_windowLine 150 = .ok (.aload_n 0, 1) := by decide +kernel
theorem dX11_windowLine_151 : decode cX11_windowLine 151 = .ok (.getfield 80, 3) := by decide +kernel
theorem dX11_windowLine_154 : decode cX11_windowLine 154 = .ok (.iconst 0, 1) := by decide +kernel
theorem dX11_windowLine_155 : decode cX11_windowLine 155 = .ok (.iaload, 1) := by decide +kernel
theorem dX11_windowLine_156 : decode cX11_windowLine 156 = .ok (.iastore, 1) := by decide +kernel
theorem dX11_windowLine_157 : decode cX11_windowLine 157 = .ok (.iload_n 1, 1) := by decide +kernel
theorem dX11_windowLine_158 : decode cX11_windowLine 158 = .ok (.iconst 1, 1) := by decide +kernel
theorem dX11_windowLine_159 : decode cX11_windowLine 159 = .ok (.if_icmp .le 48, 3) := by decide +kernel
theorem dX11_windowLine_162 : decode cX11_windowLine 162 = .ok (.aload_n 0, 1) := by decide +kernel
theorem dX11_windowLine_163 : decode cX11_windowLine 163 = .ok (.ldc 157, 2) := by decide +kernel
theorem dX11_windowLine_165 : decode cX11_windowLine 165 = .ok (.invokevirtual 184, 3) := by decide +kernel
theorem dX11_windowLine_168 : decode cX11_windowLine 168 = .ok (.ifCond .eq 12, 3) := by decide +kernel
theorem dX11_windowLine_171 : decode cX11_windowLine 171 = .ok (.aload_n 0, 1) := by decide +kernel
theorem dX11_windowLine_172 : decode cX11_windowLine 172 = .ok (.iconst 1, 1) := by decide +kernel
theorem dX11_windowLine_173 : decode cX11_windowLine 173 = .ok (.iload_n 1, 1) := by decide +kernel
theorem dX11_windowLine_174 : decode cX11_windowLine 174 = .ok (.invokevirtual 187, 3) := by decide +kernel
theorem dX11_windowLine_177 : decode cX11_windowLine 177 = .ok (.ifCond .ne 5, 3) := by decide +kernel
theorem dX11_windowLine_180 : decode cX11_windowLine 180 = .ok (.iconst 0, 1) := by decide +kernel
theorem dX11_windowLine_181 : decode cX11_windowLine 181 = .ok (.ireturn, 1) := by decide +kernel
theorem dX11_windowLine_182 : decode cX11_windowLine 182 = .ok (.aload_n 0, 1) := by decide +kernel
theorem dX11_windowLine_183 : decode cX11_windowLine 183 = .ok (.getfield 34, 3) := by decide +kernel
theorem dX11_windowLine_186 : decode cX11_windowLine 186 = .ok (.aload_n 0, 1) := by decide +kernel
theorem dX11_windowLine_187 : decode cX11_windowLine 187 = .ok (.getfield 191, 3) := by decide +kernel
theorem dX11_windowLine_190 : decode cX11_windowLine 190 = .ok (.aload_n 0, 1) := by decide +kernel
theorem dX11_windowLine_191 : decode cX11_windowLine 191 = .ok (.getfield 80, 3) := by decide +kernel
theorem dX11_windowLine_194 : decode cX11_windowLine 194 = .ok (.aload_n 0, 1) := by decide +kernel
theorem dX11_windowLine_195 : decode cX11_windowLine 195 = .ok (.getfield 108, 3) := by decide +kernel
theorem dX11_windowLine_198 : decode cX11_windowLine 198 = .ok (.l2i, 1) := by decide +kernel
theorem dX11_windowLine_199 : decode cX11_windowLine 199 = .ok (.iconst 1, 1) := by decide +kernel
theorem dX11_windowLine_200 : decode cX11_windowLine 200 = .ok (.isub, 1) := by decide +kernel
theorem dX11_windowLine_201 : decode cX11_windowLine 201 = .ok (.iaload, 1) := by decide +kernel
theorem dX11_windowLine_202 : decode cX11_windowLine 202 = .ok (.iastore, 1) := by decide +kernel
theorem dX11_windowLine_203 : decode cX11_windowLine 203 = .ok (.aload_n 0, 1) := by decide +kernel
theorem dX11_windowLine_204 : decode cX11_windowLine 204 = .ok (.invokevirtual 165, 3) := by decide +kernel
theorem dX11_windowLine_207 : decode cX11_windowLine 207 = .ok (.aload_n 0, 1) := by decide +kernel
theorem dX11_windowLine_208 : decode cX11_windowLine 208 = .ok (.dup, 1) := by decide +kernel
theorem dX11_windowLine_209 : decode cX11_windowLine 209 = .ok (.getfield 191, 3) := by decide +kernel
theorem dX11_windowLine_212 : decode cX11_windowLine 212 = .ok (.iconst 1, 1) := by decide +kernel
theorem dX11_windowLine_213 : decode cX11_windowLine 213 = .ok (.iadd, 1) := by decide +kernel
theorem dX11_windowLine_214 : decode cX11_windowLine 214 = .ok (.putfield 191, 3) := by decide +kernel
theorem dX11_windowLine_217 : decode cX11_windowLine 217 = .ok (.aload_n 0, 1) := by decide +kernel
theorem dX11_windowLine_218 : decode cX11_windowLine 218 = .ok (.invokevirtual 178, 3) := by decide +kernel
theorem dX11_windowLine_221 : decode cX11_windowLine 221 = .ok (.ireturn, 1) := by decide +kernel
theorem dX11_ruleLine_0 : decode cX11_ruleLine 0 = .ok (.aload_n 0, 1) := by decide +kernel
theorem dX11_ruleLine_1 : decode cX11_ruleLine 1 = .ok (.getfield 194, 3) := by decide +kernel
theorem dX11_ruleLine_4 : decode cX11_ruleLine 4 = .ok (.bipush 8, 2) := by decide +kernel
theorem dX11_ruleLine_6 : decode cX11_ruleLine 6 = .ok (.if_icmp .ne 5, 3) := by decide +kernel
theorem dX11_ruleLine_9 : decode cX11_ruleLine 9 = .ok (.iconst 0, 1) := by decide +kernel
theorem dX11_ruleLine_10 : decode cX11_ruleLine 10 = .ok (.ireturn, 1) := by decide +kernel
theorem dX11_ruleLine_11 : decode cX11_ruleLine 11 = .ok (.aload_n 0, 1) := by decide +kernel
theorem dX11_ruleLine_12 : decode cX11_ruleLine 12 = .ok (.invokevirtual 165, 3) := by decide +kernel
theorem dX11_ruleLine_15 : decode cX11_ruleLine 15 = .ok (.iconst 3, 1) := by decide +kernel
theorem dX11_ruleLine_16 : decode cX11_ruleLine 16 = .ok (.aload_n 0, 1) := by decide +kernel
theorem dX11_ruleLine_17 : decode cX11_ruleLine 17 = .ok (.getfield 194, 3) := by decide +kernel
theorem dX11_ruleLine_20 : decode cX11_ruleLine 20 = .ok (.imul, 1) := by decide +kernel
theorem dX11_ruleLine_21 : decode cX11_ruleLine 21 = .ok (.istore_n 1, 1) := by decide +kernel
theorem dX11_ruleLine_22 : decode cX11_ruleLine 22 = .ok (.iconst 0, 1) := by decide +kernel
theorem dX11_ruleLine_23 : decode cX11_ruleLine 23 = .ok (.istore_n 2, 1) := by decide +kernel
theorem dX11_ruleLine_24 : decode cX11_ruleLine 24 = .ok (.iload_n 2, 1) := by decide +kernel
theorem dX11_ruleLine_25 : decode cX11_ruleLine 25 = .ok (.iconst 3, 1) := by decide +kernel
theorem dX11_ruleLine_26 : decode cX11_ruleLine 26 = .ok (.if_icmp .ge 125, 3) := by decide +kernel
theorem dX11_ruleLine_29 : decode cX11_ruleLine 29 = .ok (.aload_n 0, 1) := by decide +kernel
theorem dX11_ruleLine_30 : decode cX11_ruleLine 30 = .ok (.getfield 37, 3) := by decide +kernel
theorem dX11_ruleLine_33 : decode cX11_ruleLine 33 = .ok (.iload_n 1, 1) := by decide +kernel
theorem dX11_ruleLine_34 : decode cX11_ruleLine 34 = .ok (.iload_n 2, 1) := by decide +kernel
theorem dX11_ruleLine_35 : decode cX11_ruleLine 35 = .ok (.iadd, 1) := by decide +kernel
theorem dX11_ruleLine_36 : decode cX11_ruleLine 36 = .ok (.iconst (-1), 1) := by decide +kernel
theorem dX11_ruleLine_37 : decode cX11_ruleLine 37 = .ok (.iastore, 1) := by decide +kernel
theorem dX11_ruleLine_38 : decode cX11_ruleLine 38 = .ok (.iload_n 2, 1) := by decide +kernel
theorem dX11_ruleLine_39 : decode cX11_ruleLine 39 = .ok (.iconst 1, 1) := by decide +kernel
theorem dX11_ruleLine_40 : decode cX11_ruleLine 40 = .ok (.if_icmp .ne 14, 3) := by decide +kernel
theorem dX11_ruleLine_43 : decode cX11_ruleLine 43 = .ok (.aload_n 0, 1) := by decide +kernel
theorem dX11_ruleLine_44 : decode cX11_ruleLine 44 = .ok (.ldc 161, 2) := by decide +kernel
theorem dX11_ruleLine_46 : decode cX11_ruleLine 46 = .ok (.invokevirtual 184, 3) := by decide +kernel
theorem dX11_ruleLine_49 : decode cX11_ruleLine 49 = .ok (.ifCond .ne 5, 3) := by decide +kernel
theorem dX11_ruleLine_52 : decode cX11_ruleLine 52 = .ok (.iconst 0, 1) := by decide +kernel
theorem dX11_ruleLine_53 : decode cX11_ruleLine 53 = .ok (.ireturn, 1) := by decide +kernel
theorem dX11_ruleLine_54 : decode cX11_ruleLine 54 = .ok (.iload_n 2, 1) := by decide +kernel
theorem dX11_ruleLine_55 : decode cX11_ruleLine 55 = .ok (.iconst 2, 1) := by decide +kernel
theorem dX11_ruleLine_56 : decode cX11_ruleLine 56 = .ok (.if_icmp .ne 15, 3) := by decide +kernel
theorem dX11_ruleLine_59 : decode cX11_ruleLine 59 = .ok (.aload_n 0, 1) := by decide +kernel
theorem dX11_ruleLine_60 : decode cX11_ruleLine 60 = .ok (.ldc 163, 2) := by decide +kernel
theorem dX11_ruleLine_62 : decode cX11_ruleLine 62 = .ok (.invokevirtual 144, 3) := by decide +kernel
theorem dX11_ruleLine_65 : decode cX11_ruleLine 65 = .ok (.ifCond .ne 6, 3) := by decide +kernel
theorem dX11_ruleLine_68 : decode cX11_ruleLine 68 = .ok (.goto 77, 3) := by decide +kernel
theorem dX11_ruleLine_71 : decode cX11_ruleLine 71 = .ok (.iload_n 2, 1) := by decide +kernel
theorem dX11_ruleLine_72 : decode cX11_ruleLine 72 = .ok (.iconst 2, 1) := by decide +kernel
theorem dX11_ruleLine_73 : decode cX11_ruleLine 73 = .ok (.if_icmp .ne 7, 3) := by decide +kernel
theorem dX11_ruleLine_76 : decode cX11_ruleLine 76 = .ok (.aload_n 0, 1) := by decide +kernel
theorem dX11_ruleLine_77 : decode cX11_ruleLine 77 = .ok (.invokevirtual 165, 3) := by decide +kernel
theorem dX11_ruleLine_80 : decode cX11_ruleLine 80 = .ok (.aload_n 0, 1) := by decide +kernel
theorem dX11_ruleLine_81 : decode cX11_ruleLine 81 = .ok (.iconst 0, 1) := by decide +kernel
theorem dX11_ruleLine_82 : decode cX11_ruleLine 82 = .ok (.aload_n 0, 1) := by decide +kernel
theorem dX11_ruleLine_83 : decode cX11_ruleLine 83 = .ok (.getfield 191, 3) := by decide +kernel
theorem dX11_ruleLine_86 : decode cX11_ruleLine 86 = .ok (.iconst 1, 1) := by decide +kernel
theorem dX11_ruleLine_87 : decode cX11_ruleLine 87 = .ok (.isub, 1) := by decide +kernel
theorem dX11_ruleLine_88 : decode cX11_ruleLine 88 = .ok (.invokevirtual 187, 3) := by decide +kernel
theorem dX11_ruleLine_91 : decode cX11_ruleLine 91 = .ok (.ifCond .ne 5, 3) := by decide +kernel
theorem dX11_ruleLine_94 : decode cX11_ruleLine 94 = .ok (.iconst 0, 1) := by decide +kernel
theorem dX11_ruleLine_95 : decode cX11_ruleLine 95 = .ok (.ireturn, 1) := by decide +kernel
theorem dX11_ruleLine_96 : decode cX11_ruleLine 96 = .ok (.iconst 0, 1) := by decide +kernel
theorem dX11_ruleLine_97 : decode cX11_ruleLine 97 = .ok (.istore_n 3, 1) := by decide +kernel
theorem dX11_ruleLine_98 : decode cX11_ruleLine 98 = .ok (.iload_n 3, 1) := by decide +kernel
theorem dX11_ruleLine_99 : decode cX11_ruleLine 99 = .ok (.iload_n 2, 1) := by decide +kernel
theorem dX11_ruleLine_100 : decode cX11_ruleLine 100 = .ok (.if_icmp .ge 28, 3) := by decide +kernel
theorem dX11_ruleLine_103 : decode cX11_ruleLine 103 = .ok (.aload_n 0, 1) := by decide +kernel
theorem dX11_ruleLine_104 : decode cX11_ruleLine 104 = .ok (.getfield 37, 3) := by decide +kernel
theorem dX11_ruleLine_107 : decode cX11_ruleLine 107 = .ok (.iload_n 1, 1) := by decide +kernel
theorem dX11_ruleLine_108 : decode cX11_ruleLine 108 = .ok (.iload_n 3, 1) := by decide +kernel
theorem dX11_ruleLine_109 : decode cX11_ruleLine 109 = .ok (.iadd, 1) := by decide +kernel
theorem dX11_ruleLine_110 : decode cX11_ruleLine 110 = .ok (.iaload, 1) := by decide +kernel
theorem dX11_ruleLine_111 : decode cX11_ruleLine 111 = .ok (.i2l, 1) := by decide +kernel
theorem dX11_ruleLine_112 : decode cX11_ruleLine 112 = .ok (.aload_n 0, 1) := by decide +kernel
theorem dX11_ruleLine_113 : decode cX11_ruleLine 113 = .ok (.getfield 108, 3) := by decide +kernel
theorem dX11_ruleLine_116 : decode cX11_ruleLine 116 = .ok (.lcmp, 1) := by decide +kernel
theorem dX11_ruleLine_117 : decode cX11_ruleLine 117 = .ok (.ifCond .ne 5, 3) := by decide +kernel
theorem dX11_ruleLine_120 : decode cX11_ruleLine 120 = .ok (.iconst 0, 1) := by decide +kernel
theorem dX11_ruleLine_121 : decode cX11_ruleLine 121 = .ok (.ireturn, 1) := by decide +kernel
theorem dX11_ruleLine_122 : decode cX11_ruleLine 122 = .ok (.iinc 3 1, 3) := by decide +kernel
theorem dX11_ruleLine_125 : decode cX11_ruleLine 125 = .ok (.goto (-27), 3) := by decide +kernel
theorem dX11_ruleLine_128 : decode cX11_ruleLine 128 = .ok (.aload_n 0, 1) := by decide +kernel
theorem dX11_ruleLine_129 : decode cX11_ruleLine 129 = .ok (.getfield 37, 3) := by decide +kernel
theorem dX11_ruleLine_132 : decode cX11_ruleLine 132 = .ok (.iload_n 1, 1) := by decide +kernel
theorem dX11_ruleLine_133 : decode cX11_ruleLine 133 = .ok (.iload_n 2, 1) := by decide +kernel
theorem dX11_ruleLine_134 : decode cX11_ruleLine 134 = .ok (.iadd, 1) := by decide +kernel
theorem dX11_ruleLine_135 : decode cX11_ruleLine 135 = .ok (.aload_n 0, 1) := by decide +kernel
theorem dX11_ruleLine_136 : decode cX11_ruleLine 136 = .ok (.getfield 108, 3) := by decide +kernel
theorem dX11_ruleLine_139 : decode cX11_ruleLine 139 = .ok (.l2i, 1) := by decide +kernel
theorem dX11_ruleLine_140 : decode cX11_ruleLine 140 = .ok (.iastore, 1) := by decide +kernel
theorem dX11_ruleLine_141 : decode cX11_ruleLine 141 = .ok (.aload_n 0, 1) := by decide +kernel
theorem dX11_ruleLine_142 : decode cX11_ruleLine 142 = .ok (.invokevirtual 165, 3) := by decide +kernel
theorem dX11_ruleLine_145 : decode cX11_ruleLine 145 = .ok (.iinc 2 1, 3) := by decide +kernel
theorem dX11_ruleLine_148 : decode cX11_ruleLine 148 = .ok (.goto (-124), 3) := by decide +kernel
theorem dX11_ruleLine_151 : decode cX11_ruleLine 151 = .ok (.aload_n 0, 1) := by decide +kernel
theorem dX11_ruleLine_152 : decode cX11_ruleLine 152 = .ok (.dup, 1) := by decide +kernel
theorem dX11_ruleLine_153 : decode cX11_ruleLine 153 = .ok (.getfield 194, 3) := by decide +kernel
theorem dX11_ruleLine_156 : decode cX11_ruleLine 156 = .ok (.iconst 1, 1) := by decide +kernel
theorem dX11_ruleLine_157 : decode cX11_ruleLine 157 = .ok (.iadd, 1) := by decide +kernel
theorem dX11_ruleLine_158 : decode cX11_ruleLine 158 = .ok (.putfield 194, 3) := by decide +kernel
theorem dX11_ruleLine_161 : decode cX11_ruleLine 161 = .ok (.aload_n 0, 1) := by decide +kernel
theorem dX11_ruleLine_162 : decode cX11_ruleLine 162 = .ok (.invokevirtual 178, 3) := by decide +kernel
theorem dX11_ruleLine_165 : decode cX11_ruleLine 165 = .ok (.ireturn, 1) := by decide +kernel
theorem dX11_line_0 : decode cX11_line 0 = .ok (.aload_n 0, 1) := by decide +kernel
theorem dX11_line_1 : decode cX11_line 1 = .ok (.ldc 142, 2) := by decide +kernel
theorem dX11_line_3 : decode cX11_line 3 = .ok (.invokevirtual 144, 3) := by decide +kernel
theorem dX11_line_6 : decode cX11_line 6 = .ok (.ifCond .eq 8, 3) := by decide +kernel
theorem dX11_line_9 : decode cX11_line 9 = .ok (.aload_n 0, 1) := by decide +kernel
theorem dX11_line_10 : decode cX11_line 10 = .ok (.invokevirtual 197, 3) := by decide +kernel
theorem dX11_line_13 : decode cX11_line 13 = .ok (.ireturn, 1) := by decide +kernel
theorem dX11_line_14 : decode cX11_line 14 = .ok (.aload_n 0, 1) := by decide +kernel
theorem dX11_line_15 : decode cX11_line 15 = .ok (.ldc 152, 2) := by decide +kernel
theorem dX11_line_17 : decode cX11_line 17 = .ok (.invokevirtual 144, 3) := by decide +kernel
theorem dX11_line_20 : decode cX11_line 20 = .ok (.ifCond .eq 8, 3) := by decide +kernel
theorem dX11_line_23 : decode cX11_line 23 = .ok (.aload_n 0, 1) := by decide +kernel
theorem dX11_line_24 : decode cX11_line 24 = .ok (.invokevirtual 200, 3) := by decide +kernel
theorem dX11_line_27 : decode cX11_line 27 = .ok (.ireturn, 1) := by decide +kernel
theorem dX11_line_28 : decode cX11_line 28 = .ok (.aload_n 0, 1) := by decide +kernel
theorem dX11_line_29 : decode cX11_line 29 = .ok (.ldc 155, 2) := by decide +kernel
theorem dX11_line_31 : decode cX11_line 31 = .ok (.invokevirtual 144, 3) := by decide +kernel
theorem dX11_line_34 : decode cX11_line 34 = .ok (.ifCond .eq 8, 3) := by decide +kernel
theorem dX11_line_37 : decode cX11_line 37 = .ok (.aload_n 0, 1) := by decide +kernel
theorem dX11_line_38 : decode cX11_line 38 = .ok (.invokevirtual 203, 3) := by decide +kernel
theorem dX11_line_41 : decode cX11_line 41 = .ok (.ireturn, 1) := by decide +kernel
theorem dX11_line_42 : decode cX11_line 42 = .ok (.aload_n 0, 1) := by decide +kernel
theorem dX11_line_43 : decode cX11_line 43 = .ok (.ldc 159, 2) := by decide +kernel
theorem dX11_line_45 : decode cX11_line 45 = .ok (.invokevirtual 144, 3) := by decide +kernel
theorem dX11_line_48 : decode cX11_line 48 = .ok (.ifCond .eq 14, 3) := by decide +kernel
theorem dX11_line_51 : decode cX11_line 51 = .ok (.aload_n 0, 1) := by decide +kernel
theorem dX11_line_52 : decode cX11_line 52 = .ok (.invokevirtual 206, 3) := by decide +kernel
theorem dX11_line_55 : decode cX11_line 55 = .ok (.ifCond .eq 7, 3) := by decide +kernel
theorem dX11_line_58 : decode cX11_line 58 = .ok (.iconst 1, 1) := by decide +kernel
theorem dX11_line_59 : decode cX11_line 59 = .ok (.goto 4, 3) := by decide +kernel
theorem dX11_line_62 : decode cX11_line 62 = .ok (.iconst 0, 1) := by decide +kernel
theorem dX11_line_63 : decode cX11_line 63 = .ok (.ireturn, 1) := by decide +kernel
theorem dX11_fault_0 : decode cX11_fault 0 = .ok (.aload_n 0, 1) := by decide +kernel
theorem dX11_fault_1 : decode cX11_fault 1 = .ok (.iconst 0, 1) := by decide +kernel
theorem dX11_fault_2 : decode cX11_fault 2 = .ok (.putfield 168, 3) := by decide +kernel
theorem dX11_fault_5 : decode cX11_fault 5 = .ok (.aload_n 0, 1) := by decide +kernel
theorem dX11_fault_6 : decode cX11_fault 6 = .ok (.iconst 0, 1) := by decide +kernel
theorem dX11_fault_7 : decode cX11_fault 7 = .ok (.putfield 181, 3) := by decide +kernel
theorem dX11_fault_10 : decode cX11_fault 10 = .ok (.aload_n 0, 1) := by decide +kernel
theorem dX11_fault_11 : decode cX11_fault 11 = .ok (.iconst 0, 1) := by decide +kernel
theorem dX11_fault_12 : decode cX11_fault 12 = .ok (.putfield 191, 3) := by decide +kernel
theorem dX11_fault_15 : decode cX11_fault 15 = .ok (.aload_n 0, 1) := by decide +kernel
theorem dX11_fault_16 : decode cX11_fault 16 = .ok (.iconst 0, 1) := by decide +kernel
theorem dX11_fault_17 : decode cX11_fault 17 = .ok (.putfield 194, 3) := by decide +kernel
theorem dX11_fault_20 : decode cX11_fault 20 = .ok (.aload_n 0, 1) := by decide +kernel
theorem dX11_fault_21 : decode cX11_fault 21 = .ok (.iconst 0, 1) := by decide +kernel
theorem dX11_fault_22 : decode cX11_fault 22 = .ok (.putfield 102, 3) := by decide +kernel
theorem dX11_fault_25 : decode cX11_fault 25 = .ok (.aload_n 0, 1) := by decide +kernel
theorem dX11_fault_26 : decode cX11_fault 26 = .ok (.invokevirtual 165, 3) := by decide +kernel
theorem dX11_fault_29 : decode cX11_fault 29 = .ok (.aload_n 0, 1) := by decide +kernel
theorem dX11_fault_30 : decode cX11_fault 30 = .ok (.getfield 112, 3) := by decide +kernel
theorem dX11_fault_33 : decode cX11_fault 33 = .ok (.ifCond .eq 15, 3) := by decide +kernel
theorem dX11_fault_36 : decode cX11_fault 36 = .ok (.aload_n 0, 1) := by decide +kernel
theorem dX11_fault_37 : decode cX11_fault 37 = .ok (.invokevirtual 209, 3) := by decide +kernel
theorem dX11_fault_40 : decode cX11_fault 40 = .ok (.ifCond .ne (-11), 3) := by decide +kernel
theorem dX11_fault_43 : decode cX11_fault 43 = .ok (.aload_n 0, 1) := by decide +kernel
theorem dX11_fault_44 : decode cX11_fault 44 = .ok (.getfield 105, 3) := by decide +kernel
theorem dX11_fault_47 : decode cX11_fault 47 = .ok (.ireturn, 1) := by decide +kernel
theorem dX11_fault_48 : decode cX11_fault 48 = .ok (.aload_n 0, 1) := by decide +kernel
theorem dX11_fault_49 : decode cX11_fault 49 = .ok (.getfield 168, 3) := by decide +kernel
theorem dX11_fault_52 : decode cX11_fault 52 = .ok (.ifCond .ne 10, 3) := by decide +kernel
theorem dX11_fault_55 : decode cX11_fault 55 = .ok (.aload_n 0, 1) := by decide +kernel
theorem dX11_fault_56 : decode cX11_fault 56 = .ok (.getfield 105, 3) := by decide +kernel
theorem dX11_fault_59 : decode cX11_fault 59 = .ok (.goto 4, 3) := by decide +kernel
theorem dX11_fault_62 : decode cX11_fault 62 = .ok (.iconst (-1), 1) := by decide +kernel
theorem dX11_fault_63 : decode cX11_fault 63 = .ok (.ireturn, 1) := by decide +kernel
theorem dX11_plant_0 : decode cX11_plant 0 = .ok (.aload_n 0, 1) := by decide +kernel
theorem dX11_plant_1 : decode cX11_plant 1 = .ok (.invokevirtual 212, 3) := by decide +kernel
theorem dX11_plant_4 : decode cX11_plant 4 = .ok (.iconst (-1), 1) := by decide +kernel
theorem dX11_plant_5 : decode cX11_plant 5 = .ok (.if_icmp .eq 5, 3) := by decide +kernel
theorem dX11_plant_8 : decode cX11_plant 8 = .ok (.iconst (-1), 1) := by decide +kernel
theorem dX11_plant_9 : decode cX11_plant 9 = .ok (.ireturn, 1) := by decide +kernel
theorem dX11_plant_10 : decode cX11_plant 10 = .ok (.aload_n 0, 1) := by decide +kernel
theorem dX11_plant_11 : decode cX11_plant 11 = .ok (.aload_n 0, 1) := by decide +kernel
theorem dX11_plant_12 : decode cX11_plant 12 = .ok (.getfield 168, 3) := by decide +kernel
theorem dX11_plant_15 : decode cX11_plant 15 = .ok (.putfield 215, 3) := by decide +kernel
theorem dX11_plant_18 : decode cX11_plant 18 = .ok (.aload_n 0, 1) := by decide +kernel
theorem dX11_plant_19 : decode cX11_plant 19 = .ok (.aload_n 0, 1) := by decide +kernel
theorem dX11_plant_20 : decode cX11_plant 20 = .ok (.getfield 181, 3) := by decide +kernel
theorem dX11_plant_23 : decode cX11_plant 23 = .ok (.putfield 218, 3) := by decide +kernel
theorem dX11_plant_26 : decode cX11_plant 26 = .ok (.aload_n 0, 1) := by decide +kernel
theorem dX11_plant_27 : decode cX11_plant 27 = .ok (.aload_n 0, 1) := by decide +kernel
theorem dX11_plant_28 : decode cX11_plant 28 = .ok (.getfield 191, 3) := by decide +kernel
theorem dX11_plant_31 : decode cX11_plant 31 = .ok (.putfield 221, 3) := by decide +kernel
theorem dX11_plant_34 : decode cX11_plant 34 = .ok (.aload_n 0, 1) := by decide +kernel
theorem dX11_plant_35 : decode cX11_plant 35 = .ok (.aload_n 0, 1) := by decide +kernel
theorem dX11_plant_36 : decode cX11_plant 36 = .ok (.getfield 194, 3) := by decide +kernel
theorem dX11_plant_39 : decode cX11_plant 39 = .ok (.putfield 224, 3) := by decide +kernel
theorem dX11_plant_42 : decode cX11_plant 42 = .ok (.iconst 0, 1) := by decide +kernel
theorem dX11_plant_43 : decode cX11_plant 43 = .ok (.istore_n 1, 1) := by decide +kernel
theorem dX11_plant_44 : decode cX11_plant 44 = .ok (.iload_n 1, 1) := by decide +kernel
theorem dX11_plant_45 : decode cX11_plant 45 = .ok (.bipush 12, 2) := by decide +kernel
theorem dX11_plant_47 : decode cX11_plant 47 = .ok (.if_icmp .ge 21, 3) := by decide +kernel
theorem dX11_plant_50 : decode cX11_plant 50 = .ok (.aload_n 0, 1) := by decide +kernel
theorem dX11_plant_51 : decode cX11_plant 51 = .ok (.getfield 40, 3) := by decide +kernel
theorem dX11_plant_54 : decode cX11_plant 54 = .ok (.iload_n 1, 1) := by decide +kernel
theorem dX11_plant_55 : decode cX11_plant 55 = .ok (.aload_n 0, 1) := by decide +kernel
theorem dX11_plant_56 : decode cX11_plant 56 = .ok (.getfield 17, 3) := by decide +kernel
theorem dX11_plant_59 : decode cX11_plant 59 = .ok (.iload_n 1, 1) := by decide +kernel
theorem dX11_plant_60 : decode cX11_plant 60 = .ok (.baload, 1) := by decide +kernel
theorem dX11_plant_61 : decode cX11_plant 61 = .ok (.bastore, 1) := by decide +kernel
theorem dX11_plant_62 : decode cX11_plant 62 = .ok (.iinc 1 1, 3) := by decide +kernel
theorem dX11_plant_65 : decode cX11_plant 65 = .ok (.goto (-21), 3) := by decide +kernel
theorem dX11_plant_68 : decode cX11_plant 68 = .ok (.iconst 0, 1) := by decide +kernel
theorem dX11_plant_69 : decode cX11_plant 69 = .ok (.istore_n 1, 1) := by decide +kernel
theorem dX11_plant_70 : decode cX11_plant 70 = .ok (.iload_n 1, 1) := by decide +kernel
theorem dX11_plant_71 : decode cX11_plant 71 = .ok (.bipush 24, 2) := by decide +kernel
theorem dX11_plant_73 : decode cX11_plant 73 = .ok (.if_icmp .ge 45, 3) := by decide +kernel
theorem dX11_plant_76 : decode cX11_plant 76 = .ok (.aload_n 0, 1) := by decide +kernel
theorem dX11_plant_77 : decode cX11_plant 77 = .ok (.getfield 43, 3) := by decide +kernel
theorem dX11_plant_80 : decode cX11_plant 80 = .ok (.iload_n 1, 1) := by decide +kernel
theorem dX11_plant_81 : decode cX11_plant 81 = .ok (.aload_n 0, 1) := by decide +kernel
theorem dX11_plant_82 : decode cX11_plant 82 = .ok (.getfield 21, 3) := by decide +kernel
theorem dX11_plant_85 : decode cX11_plant 85 = .ok (.iload_n 1, 1) := by decide +kernel
theorem dX11_plant_86 : decode cX11_plant 86 = .ok (.iaload, 1) := by decide +kernel
theorem dX11_plant_87 : decode cX11_plant 87 = .ok (.iastore, 1) := by decide +kernel
theorem dX11_plant_88 : decode cX11_plant 88 = .ok (.aload_n 0, 1) := by decide +kernel
theorem dX11_plant_89 : decode cX11_plant 89 = .ok (.getfield 46, 3) := by decide +kernel
theorem dX11_plant_92 : decode cX11_plant 92 = .ok (.iload_n 1, 1) := by decide +kernel
theorem dX11_plant_93 : decode cX11_plant 93 = .ok (.aload_n 0, 1) := by decide +kernel
theorem dX11_plant_94 : decode cX11_plant 94 = .ok (.getfield 25, 3) := by decide +kernel
theorem dX11_plant_97 : decode cX11_plant 97 = .ok (.iload_n 1, 1) := by decide +kernel
theorem dX11_plant_98 : decode cX11_plant 98 = .ok (.iaload, 1) := by decide +kernel
theorem dX11_plant_99 : decode cX11_plant 99 = .ok (.iastore, 1) := by decide +kernel
theorem dX11_plant_100 : decode cX11_plant 100 = .ok (.aload_n 0, 1) := by decide +kernel
theorem dX11_plant_101 : decode cX11_plant 101 = .ok (.getfield 49, 3) := by decide +kernel
theorem dX11_plant_104 : decode cX11_plant 104 = .ok (.iload_n 1, 1) := by decide +kernel
theorem dX11_plant_105 : decode cX11_plant 105 = .ok (.aload_n 0, 1) := by decide +kernel
theorem dX11_plant_106 : decode cX11_plant 106 = .ok (.getfield 28, 3) := by decide +kernel
theorem dX11_plant_109 : decode cX11_plant 109 = .ok (.iload_n 1, 1) := by decide +kernel
theorem dX11_plant_110 : decode cX11_plant 110 = .ok (.iaload, 1) := by decide +kernel
theorem dX11_plant_111 : decode cX11_plant 111 = .ok (.iastore, 1) := by decide +kernel
theorem dX11_plant_112 : decode cX11_plant 112 = .ok (.iinc 1 1, 3) := by decide +kernel
theorem dX11_plant_115 : decode cX11_plant 115 = .ok (.goto (-45), 3) := by decide +kernel
theorem dX11_plant_118 : decode cX11_plant 118 = .ok (.iconst 0, 1) := by decide +kernel
theorem dX11_plant_119 : decode cX11_plant 119 = .ok (.istore_n 1, 1) := by decide +kernel
theorem dX11_plant_120 : decode cX11_plant 120 = .ok (.iload_n 1, 1) := by decide +kernel
theorem dX11_plant_121 : decode cX11_plant 121 = .ok (.bipush 12, 2) := by decide +kernel
theorem dX11_plant_123 : decode cX11_plant 123 = .ok (.if_icmp .ge 47, 3) := by decide +kernel
theorem dX11_plant_126 : decode cX11_plant 126 = .ok (.aload_n 0, 1) := by decide +kernel
theorem dX11_plant_127 : decode cX11_plant 127 = .ok (.getfield 52, 3) := by decide +kernel
theorem dX11_plant_130 : decode cX11_plant 130 = .ok (.iload_n 1, 1) := by decide +kernel
theorem dX11_plant_131 : decode cX11_plant 131 = .ok (.aload_n 0, 1) := by decide +kernel
theorem dX11_plant_132 : decode cX11_plant 132 = .ok (.getfield 31, 3) := by decide +kernel
theorem dX11_plant_135 : decode cX11_plant 135 = .ok (.iload_n 1, 1) := by decide +kernel
theorem dX11_plant_136 : decode cX11_plant 136 = .ok (.iaload, 1) := by decide +kernel
theorem dX11_plant_137 : decode cX11_plant 137 = .ok (.iastore, 1) := by decide +kernel
theorem dX11_plant_138 : decode cX11_plant 138 = .ok (.aload_n 0, 1) := by decide +kernel
theorem dX11_plant_139 : decode cX11_plant 139 = .ok (.getfield 55, 3) := by decide +kernel
theorem dX11_plant_142 : decode cX11_plant 142 = .ok (.iload_n 1, 1) := by decide +kernel
theorem dX11_plant_143 : decode cX11_plant 143 = .ok (.aload_n 0, 1) := by decide +kernel
theorem dX11_plant_144 : decode cX11_plant 144 = .ok (.getfield 34, 3) := by decide +kernel
theorem dX11_plant_147 : decode cX11_plant 147 = .ok (.iload_n 1, 1) := by decide +kernel
theorem dX11_plant_148 : decode cX11_plant 148 = .ok (.iaload, 1) := by decide +kernel
theorem dX11_plant_149 : decode cX11_plant 149 = .ok (.iastore, 1) := by decide +kernel
theorem dX11_plant_150 : decode cX11_plant 150 = .ok (.aload_n 0, 1) := by decide +kernel
theorem dX11_plant_151 : decode cX11_plant 151 = .ok (.getfield 58, 3) := by decide +kernel
theorem dX11_plant_154 : decode cX11_plant 154 = .ok (.iload_n 1, 1) := by decide +kernel
theorem dX11_plant_155 : decode cX11_plant 155 = .ok (.iconst 0, 1) := by decide +kernel
theorem dX11_plant_156 : decode cX11_plant 156 = .ok (.iastore, 1) := by decide +kernel
theorem dX11_plant_157 : decode cX11_plant 157 = .ok (.aload_n 0, 1) := by decide +kernel
theorem dX11_plant_158 : decode cX11_plant 158 = .ok (.getfield 61, 3) := by decide +kernel
theorem dX11_plant_161 : decode cX11_plant 161 = .ok (.iload_n 1, 1) := by decide +kernel
theorem dX11_plant_162 : decode cX11_plant 162 = .ok (.iload_n 1, 1) := by decide +kernel
theorem dX11_plant_163 : decode cX11_plant 163 = .ok (.iastore, 1) := by decide +kernel
theorem dX11_plant_164 : decode cX11_plant 164 = .ok (.iinc 1 1, 3) := by decide +kernel
theorem dX11_plant_167 : decode cX11_plant 167 = .ok (.goto (-47), 3) := by decide +kernel
theorem dX11_plant_170 : decode cX11_plant 170 = .ok (.iconst 0, 1) := by decide +kernel
theorem dX11_plant_171 : decode cX11_plant 171 = .ok (.istore_n 1, 1) := by decide +kernel
theorem dX11_plant_172 : decode cX11_plant 172 = .ok (.iload_n 1, 1) := by decide +kernel
theorem dX11_plant_173 : decode cX11_plant 173 = .ok (.bipush 24, 2) := by decide +kernel
theorem dX11_plant_175 : decode cX11_plant 175 = .ok (.if_icmp .ge 21, 3) := by decide +kernel
theorem dX11_plant_178 : decode cX11_plant 178 = .ok (.aload_n 0, 1) := by decide +kernel
theorem dX11_plant_179 : decode cX11_plant 179 = .ok (.getfield 64, 3) := by decide +kernel
theorem dX11_plant_182 : decode cX11_plant 182 = .ok (.iload_n 1, 1) := by decide +kernel
theorem dX11_plant_183 : decode cX11_plant 183 = .ok (.aload_n 0, 1) := by decide +kernel
theorem dX11_plant_184 : decode cX11_plant 184 = .ok (.getfield 37, 3) := by decide +kernel
theorem dX11_plant_187 : decode cX11_plant 187 = .ok (.iload_n 1, 1) := by decide +kernel
theorem dX11_plant_188 : decode cX11_plant 188 = .ok (.iaload, 1) := by decide +kernel
theorem dX11_plant_189 : decode cX11_plant 189 = .ok (.iastore, 1) := by decide +kernel
theorem dX11_plant_190 : decode cX11_plant 190 = .ok (.iinc 1 1, 3) := by decide +kernel
theorem dX11_plant_193 : decode cX11_plant 193 = .ok (.goto (-21), 3) := by decide +kernel
theorem dX11_plant_196 : decode cX11_plant 196 = .ok (.iconst 0, 1) := by decide +kernel
theorem dX11_plant_197 : decode cX11_plant 197 = .ok (.istore_n 1, 1) := by decide +kernel
theorem dX11_plant_198 : decode cX11_plant 198 = .ok (.iload_n 1, 1) := by decide +kernel
theorem dX11_plant_199 : decode cX11_plant 199 = .ok (.bipush 8, 2) := by decide +kernel
theorem dX11_plant_201 : decode cX11_plant 201 = .ok (.if_icmp .ge 16, 3) := by decide +kernel
theorem dX11_plant_204 : decode cX11_plant 204 = .ok (.aload_n 0, 1) := by decide +kernel
theorem dX11_plant_205 : decode cX11_plant 205 = .ok (.getfield 67, 3) := by decide +kernel
theorem dX11_plant_208 : decode cX11_plant 208 = .ok (.iload_n 1, 1) := by decide +kernel
theorem dX11_plant_209 : decode cX11_plant 209 = .ok (.iconst 0, 1) := by decide +kernel
theorem dX11_plant_210 : decode cX11_plant 210 = .ok (.bastore, 1) := by decide +kernel
theorem dX11_plant_211 : decode cX11_plant 211 = .ok (.iinc 1 1, 3) := by decide +kernel
theorem dX11_plant_214 : decode cX11_plant 214 = .ok (.goto (-16), 3) := by decide +kernel
theorem dX11_plant_217 : decode cX11_plant 217 = .ok (.aload_n 0, 1) := by decide +kernel
theorem dX11_plant_218 : decode cX11_plant 218 = .ok (.iconst 0, 1) := by decide +kernel
theorem dX11_plant_219 : decode cX11_plant 219 = .ok (.putfield 227, 3) := by decide +kernel
theorem dX11_plant_222 : decode cX11_plant 222 = .ok (.aload_n 0, 1) := by decide +kernel
theorem dX11_plant_223 : decode cX11_plant 223 = .ok (.iconst 0, 1) := by decide +kernel
theorem dX11_plant_224 : decode cX11_plant 224 = .ok (.putfield 95, 3) := by decide +kernel
theorem dX11_plant_227 : decode cX11_plant 227 = .ok (.aload_n 0, 1) := by decide +kernel
theorem dX11_plant_228 : decode cX11_plant 228 = .ok (.getfield 215, 3) := by decide +kernel
theorem dX11_plant_231 : decode cX11_plant 231 = .ok (.ireturn, 1) := by decide +kernel
theorem dX11_isPoint_0 : decode cX11_isPoint 0 = .ok (.iload_n 1, 1) := by decide +kernel
theorem dX11_isPoint_1 : decode cX11_isPoint 1 = .ok (.iconst 0, 1) := by decide +kernel
theorem dX11_isPoint_2 : decode cX11_isPoint 2 = .ok (.aload_n 0, 1) := by decide +kernel
theorem dX11_isPoint_3 : decode cX11_isPoint 3 = .ok (.getfield 215, 3) := by decide +kernel
theorem dX11_isPoint_6 : decode cX11_isPoint 6 = .ok (.iconst 1, 1) := by decide +kernel
theorem dX11_isPoint_7 : decode cX11_isPoint 7 = .ok (.isub, 1) := by decide +kernel
theorem dX11_isPoint_8 : decode cX11_isPoint 8 = .ok (.invokestatic 98, 3) := by decide +kernel
theorem dX11_isPoint_11 : decode cX11_isPoint 11 = .ok (.ireturn, 1) := by decide +kernel
theorem dX11_isWindow_0 : decode cX11_isWindow 0 = .ok (.iload_n 1, 1) := by decide +kernel
theorem dX11_isWindow_1 : decode cX11_isWindow 1 = .ok (.iconst 0, 1) := by decide +kernel
theorem dX11_isWindow_2 : decode cX11_isWindow 2 = .ok (.aload_n 0, 1) := by decide +kernel
theorem dX11_isWindow_3 : decode cX11_isWindow 3 = .ok (.getfield 221, 3) := by decide +kernel
theorem dX11_isWindow_6 : decode cX11_isWindow 6 = .ok (.iconst 1, 1) := by decide +kernel
theorem dX11_isWindow_7 : decode cX11_isWindow 7 = .ok (.isub, 1) := by decide +kernel
theorem dX11_isWindow_8 : decode cX11_isWindow 8 = .ok (.invokestatic 98, 3) := by decide +kernel
theorem dX11_isWindow_11 : decode cX11_isWindow 11 = .ok (.ireturn, 1) := by decide +kernel
theorem dX11_isHeap_0 : decode cX11_isHeap 0 = .ok (.aload_n 0, 1) := by decide +kernel
theorem dX11_isHeap_1 : decode cX11_isHeap 1 = .ok (.getfield 215, 3) := by decide +kernel
theorem dX11_isHeap_4 : decode cX11_isHeap 4 = .ok (.ifCond .le 23, 3) := by decide +kernel
theorem dX11_isHeap_7 : decode cX11_isHeap 7 = .ok (.iload_n 1, 1) := by decide +kernel
theorem dX11_isHeap_8 : decode cX11_isHeap 8 = .ok (.iconst 0, 1) := by decide +kernel
theorem dX11_isHeap_9 : decode cX11_isHeap 9 = .ok (.iconst 1, 1) := by decide +kernel
theorem dX11_isHeap_10 : decode cX11_isHeap 10 = .ok (.aload_n 0, 1) := by decide +kernel
theorem dX11_isHeap_11 : decode cX11_isHeap 11 = .ok (.getfield 215, 3) := by decide +kernel
theorem dX11_isHeap_14 : decode cX11_isHeap 14 = .ok (.ishl, 1) := by decide +kernel
theorem dX11_isHeap_15 : decode cX11_isHeap 15 = .ok (.iconst 1, 1) := by decide +kernel
theorem dX11_isHeap_16 : decode cX11_isHeap 16 = .ok (.isub, 1) := by decide +kernel
theorem dX11_isHeap_17 : decode cX11_isHeap 17 = .ok (.invokestatic 98, 3) := by decide +kernel
theorem dX11_isHeap_20 : decode cX11_isHeap 20 = .ok (.ifCond .eq 7, 3) := by decide +kernel
theorem dX11_isHeap_23 : decode cX11_isHeap 23 = .ok (.iconst 1, 1) := by decide +kernel
theorem dX11_isHeap_24 : decode cX11_isHeap 24 = .ok (.goto 4, 3) := by decide +kernel
theorem dX11_isHeap_27 : decode cX11_isHeap 27 = .ok (.iconst 0, 1) := by decide +kernel
theorem dX11_isHeap_28 : decode cX11_isHeap 28 = .ok (.ireturn, 1) := by decide +kernel
theorem dX11_stick_0 : decode cX11_stick 0 = .ok (.aload_n 0, 1) := by decide +kernel
theorem dX11_stick_1 : decode cX11_stick 1 = .ok (.iload_n 1, 1) := by decide +kernel
theorem dX11_stick_2 : decode cX11_stick 2 = .ok (.invokevirtual 230, 3) := by decide +kernel
theorem dX11_stick_5 : decode cX11_stick 5 = .ok (.ifCond .eq 12, 3) := by decide +kernel
theorem dX11_stick_8 : decode cX11_stick 8 = .ok (.iload_n 2, 1) := by decide +kernel
theorem dX11_stick_9 : decode cX11_stick 9 = .ok (.iconst 0, 1) := by decide +kernel
theorem dX11_stick_10 : decode cX11_stick 10 = .ok (.iconst 2, 1) := by decide +kernel
theorem dX11_stick_11 : decode cX11_stick 11 = .ok (.invokestatic 98, 3) := by decide +kernel
theorem dX11_stick_14 : decode cX11_stick 14 = .ok (.ifCond .ne 5, 3) := by decide +kernel
theorem dX11_stick_17 : decode cX11_stick 17 = .ok (.iconst 0, 1) := by decide +kernel
theorem dX11_stick_18 : decode cX11_stick 18 = .ok (.ireturn, 1) := by decide +kernel
theorem dX11_stick_19 : decode cX11_stick 19 = .ok (.aload_n 0, 1) := by decide +kernel
theorem dX11_stick_20 : decode cX11_stick 20 = .ok (.getfield 58, 3) := by decide +kernel
theorem dX11_stick_23 : decode cX11_stick 23 = .ok (.iload_n 1, 1) := by decide +kernel
theorem dX11_stick_24 : decode cX11_stick 24 = .ok (.iload_n 2, 1) := by decide +kernel
theorem dX11_stick_25 : decode cX11_stick 25 = .ok (.iastore, 1) := by decide +kernel
theorem dX11_stick_26 : decode cX11_stick 26 = .ok (.iconst 1, 1) := by decide +kernel
theorem dX11_stick_27 : decode cX11_stick 27 = .ok (.ireturn, 1) := by decide +kernel
theorem dX11_window_0 : decode cX11_window 0 = .ok (.aload_n 0, 1) := by decide +kernel
theorem dX11_window_1 : decode cX11_window 1 = .ok (.iload_n 1, 1) := by decide +kernel
theorem dX11_window_2 : decode cX11_window 2 = .ok (.invokevirtual 230, 3) := by decide +kernel
theorem dX11_window_5 : decode cX11_window 5 = .ok (.ifCond .ne 5, 3) := by decide +kernel
theorem dX11_window_8 : decode cX11_window 8 = .ok (.iconst (-1), 1) := by decide +kernel
theorem dX11_window_9 : decode cX11_window 9 = .ok (.ireturn, 1) := by decide +kernel
theorem dX11_window_10 : decode cX11_window 10 = .ok (.iload_n 2, 1) := by decide +kernel
theorem dX11_window_11 : decode cX11_window 11 = .ok (.ifCond .ne 12, 3) := by decide +kernel
theorem dX11_window_14 : decode cX11_window 14 = .ok (.aload_n 0, 1) := by decide +kernel
theorem dX11_window_15 : decode cX11_window 15 = .ok (.getfield 52, 3) := by decide +kernel
theorem dX11_window_18 : decode cX11_window 18 = .ok (.iload_n 1, 1) := by decide +kernel
theorem dX11_window_19 : decode cX11_window 19 = .ok (.iaload, 1) := by decide +kernel
theorem dX11_window_20 : decode cX11_window 20 = .ok (.goto 46, 3) := by decide +kernel
theorem dX11_window_23 : decode cX11_window 23 = .ok (.iload_n 2, 1) := by decide +kernel
theorem dX11_window_24 : decode cX11_window 24 = .ok (.iconst 1, 1) := by decide +kernel
theorem dX11_window_25 : decode cX11_window 25 = .ok (.if_icmp .ne 12, 3) := by decide +kernel
theorem dX11_window_28 : decode cX11_window 28 = .ok (.aload_n 0, 1) := by decide +kernel
theorem dX11_window_29 : decode cX11_window 29 = .ok (.getfield 55, 3) := by decide +kernel
theorem dX11_window_32 : decode cX11_window 32 = .ok (.iload_n 1, 1) := by decide +kernel
theorem dX11_window_33 : decode cX11_window 33 = .ok (.iaload, 1) := by decide +kernel
theorem dX11_window_34 : decode cX11_window 34 = .ok (.goto 32, 3) := by decide +kernel
theorem dX11_window_37 : decode cX11_window 37 = .ok (.iload_n 2, 1) := by decide +kernel
theorem dX11_window_38 : decode cX11_window 38 = .ok (.iconst 2, 1) := by decide +kernel
theorem dX11_window_39 : decode cX11_window 39 = .ok (.if_icmp .ne 12, 3) := by decide +kernel
theorem dX11_window_42 : decode cX11_window 42 = .ok (.aload_n 0, 1) := by decide +kernel
theorem dX11_window_43 : decode cX11_window 43 = .ok (.getfield 58, 3) := by decide +kernel
theorem dX11_window_46 : decode cX11_window 46 = .ok (.iload_n 1, 1) := by decide +kernel
theorem dX11_window_47 : decode cX11_window 47 = .ok (.iaload, 1) := by decide +kernel
theorem dX11_window_48 : decode cX11_window 48 = .ok (.goto 18, 3) := by decide +kernel
theorem dX11_window_51 : decode cX11_window 51 = .ok (.iload_n 2, 1) := by decide +kernel
theorem dX11_window_52 : decode cX11_window 52 = .ok (.iconst 3, 1) := by decide +kernel
theorem dX11_window_53 : decode cX11_window 53 = .ok (.if_icmp .ne 12, 3) := by decide +kernel
theorem dX11_window_56 : decode cX11_window 56 = .ok (.aload_n 0, 1) := by decide +kernel
theorem dX11_window_57 : decode cX11_window 57 = .ok (.getfield 61, 3) := by decide +kernel
theorem dX11_window_60 : decode cX11_window 60 = .ok (.iload_n 1, 1) := by decide +kernel
theorem dX11_window_61 : decode cX11_window 61 = .ok (.iaload, 1) := by decide +kernel
theorem dX11_window_62 : decode cX11_window 62 = .ok (.goto 4, 3) := by decide +kernel
theorem dX11_window_65 : decode cX11_window 65 = .ok (.iconst (-1), 1) := by decide +kernel
theorem dX11_window_66 : decode cX11_window 66 = .ok (.ireturn, 1) := by decide +kernel
theorem dX11_wouldFail_0 : decode cX11_wouldFail 0 = .ok (.iconst 0, 1) := by decide +kernel
theorem dX11_wouldFail_1 : decode cX11_wouldFail 1 = .ok (.istore_n 2, 1) := by decide +kernel
theorem dX11_wouldFail_2 : decode cX11_wouldFail 2 = .ok (.ldc 233, 2) := by decide +kernel
theorem dX11_wouldFail_4 : decode cX11_wouldFail 4 = .ok (.istore_n 3, 1) := by decide +kernel
theorem dX11_wouldFail_5 : decode cX11_wouldFail 5 = .ok (.iconst 0, 1) := by decide +kernel
theorem dX11_wouldFail_6 : decode cX11_wouldFail 6 = .ok (.istore 4, 2) := by decide +kernel
theorem dX11_wouldFail_8 : decode cX11_wouldFail 8 = .ok (.iconst 0, 1) := by decide +kernel
theorem dX11_wouldFail_9 : decode cX11_wouldFail 9 = .ok (.istore 5, 2) := by decide +kernel
theorem dX11_wouldFail_11 : decode cX11_wouldFail 11 = .ok (.iload 5, 2) := by decide +kernel
theorem dX11_wouldFail_13 : decode cX11_wouldFail 13 = .ok (.aload_n 0, 1) := by decide +kernel
theorem dX11_wouldFail_14 : decode cX11_wouldFail 14 = .ok (.getfield 218, 3) := by decide +kernel
theorem dX11_wouldFail_17 : decode cX11_wouldFail 17 = .ok (.if_icmp .ge 99, 3) := by decide +kernel
theorem dX11_wouldFail_20 : decode cX11_wouldFail 20 = .ok (.aload_n 0, 1) := by decide +kernel
theorem dX11_wouldFail_21 : decode cX11_wouldFail 21 = .ok (.getfield 46, 3) := by decide +kernel
theorem dX11_wouldFail_24 : decode cX11_wouldFail 24 = .ok (.iload 5, 2) := by decide +kernel
theorem dX11_wouldFail_26 : decode cX11_wouldFail 26 = .ok (.iaload, 1) := by decide +kernel
theorem dX11_wouldFail_27 : decode cX11_wouldFail 27 = .ok (.iload_n 1, 1) := by decide +kernel
theorem dX11_wouldFail_28 : decode cX11_wouldFail 28 = .ok (.if_icmp .eq 6, 3) := by decide +kernel
theorem dX11_wouldFail_31 : decode cX11_wouldFail 31 = .ok (.goto 79, 3) := by decide +kernel
theorem dX11_wouldFail_34 : decode cX11_wouldFail 34 = .ok (.iinc 2 1, 3) := by decide +kernel
theorem dX11_wouldFail_37 : decode cX11_wouldFail 37 = .ok (.aload_n 0, 1) := by decide +kernel
theorem dX11_wouldFail_38 : decode cX11_wouldFail 38 = .ok (.getfield 83, 3) := by decide +kernel
theorem dX11_wouldFail_41 : decode cX11_wouldFail 41 = .ok (.aload_n 0, 1) := by decide +kernel
theorem dX11_wouldFail_42 : decode cX11_wouldFail 42 = .ok (.getfield 43, 3) := by decide +kernel
theorem dX11_wouldFail_45 : decode cX11_wouldFail 45 = .ok (.iload 5, 2) := by decide +kernel
theorem dX11_wouldFail_47 : decode cX11_wouldFail 47 = .ok (.iaload, 1) := by decide +kernel
theorem dX11_wouldFail_48 : decode cX11_wouldFail 48 = .ok (.iaload, 1) := by decide +kernel
theorem dX11_wouldFail_49 : decode cX11_wouldFail 49 = .ok (.ldc 233, 2) := by decide +kernel
theorem dX11_wouldFail_51 : decode cX11_wouldFail 51 = .ok (.if_icmp .ne 8, 3) := by decide +kernel
theorem dX11_wouldFail_54 : decode cX11_wouldFail 54 = .ok (.ldc 233, 2) := by decide +kernel
theorem dX11_wouldFail_56 : decode cX11_wouldFail 56 = .ok (.goto 23, 3) := by decide +kernel
theorem dX11_wouldFail_59 : decode cX11_wouldFail 59 = .ok (.aload_n 0, 1) := by decide +kernel
theorem dX11_wouldFail_60 : decode cX11_wouldFail 60 = .ok (.getfield 83, 3) := by decide +kernel
theorem dX11_wouldFail_63 : decode cX11_wouldFail 63 = .ok (.aload_n 0, 1) := by decide +kernel
theorem dX11_wouldFail_64 : decode cX11_wouldFail 64 = .ok (.getfield 43, 3) := by decide +kernel
theorem dX11_wouldFail_67 : decode cX11_wouldFail 67 = .ok (.iload 5, 2) := by decide +kernel
theorem dX11_wouldFail_69 : decode cX11_wouldFail 69 = .ok (.iaload, 1) := by decide +kernel
theorem dX11_wouldFail_70 : decode cX11_wouldFail 70 = .ok (.iaload, 1) := by decide +kernel
theorem dX11_wouldFail_71 : decode cX11_wouldFail 71 = .ok (.aload_n 0, 1) := by decide +kernel
theorem dX11_wouldFail_72 : decode cX11_wouldFail 72 = .ok (.getfield 49, 3) := by decide +kernel
theorem dX11_wouldFail_75 : decode cX11_wouldFail 75 = .ok (.iload 5, 2) := by decide +kernel
theorem dX11_wouldFail_77 : decode cX11_wouldFail 77 = .ok (.iaload, 1) := by decide +kernel
theorem dX11_wouldFail_78 : decode cX11_wouldFail 78 = .ok (.iadd, 1) := by decide +kernel
theorem dX11_wouldFail_79 : decode cX11_wouldFail 79 = .ok (.istore 6, 2) := by decide +kernel
theorem dX11_wouldFail_81 : decode cX11_wouldFail 81 = .ok (.iload 6, 2) := by decide +kernel
theorem dX11_wouldFail_83 : decode cX11_wouldFail 83 = .ok (.iload_n 3, 1) := by decide +kernel
theorem dX11_wouldFail_84 : decode cX11_wouldFail 84 = .ok (.if_icmp .ge 8, 3) := by decide +kernel
theorem dX11_wouldFail_87 : decode cX11_wouldFail 87 = .ok (.iload 6, 2) := by decide +kernel
theorem dX11_wouldFail_89 : decode cX11_wouldFail 89 = .ok (.goto 4, 3) := by decide +kernel
theorem dX11_wouldFail_92 : decode cX11_wouldFail 92 = .ok (.iload_n 3, 1) := by decide +kernel
theorem dX11_wouldFail_93 : decode cX11_wouldFail 93 = .ok (.istore_n 3, 1) := by decide +kernel
theorem dX11_wouldFail_94 : decode cX11_wouldFail 94 = .ok (.iload 6, 2) := by decide +kernel
theorem dX11_wouldFail_96 : decode cX11_wouldFail 96 = .ok (.iload 4, 2) := by decide +kernel
theorem dX11_wouldFail_98 : decode cX11_wouldFail 98 = .ok (.if_icmp .le 8, 3) := by decide +kernel
theorem dX11_wouldFail_101 : decode cX11_wouldFail 101 = .ok (.iload 6, 2) := by decide +kernel
theorem dX11_wouldFail_103 : decode cX11_wouldFail 103 = .ok (.goto 5, 3) := by decide +kernel
theorem dX11_wouldFail_106 : decode cX11_wouldFail 106 = .ok (.iload 4, 2) := by decide +kernel
theorem dX11_wouldFail_108 : decode cX11_wouldFail 108 = .ok (.istore 4, 2) := by decide +kernel
theorem dX11_wouldFail_110 : decode cX11_wouldFail 110 = .ok (.iinc 5 1, 3) := by decide +kernel
theorem dX11_wouldFail_113 : decode cX11_wouldFail 113 = .ok (.goto (-102), 3) := by decide +kernel
theorem dX11_wouldFail_116 : decode cX11_wouldFail 116 = .ok (.iload_n 2, 1) := by decide +kernel
theorem dX11_wouldFail_117 : decode cX11_wouldFail 117 = .ok (.ifCond .ne 8, 3) := by decide +kernel
theorem dX11_wouldFail_120 : decode cX11_wouldFail 120 = .ok (.ldc 233, 2) := by decide +kernel
theorem dX11_wouldFail_122 : decode cX11_wouldFail 122 = .ok (.goto 18, 3) := by decide +kernel
theorem dX11_wouldFail_125 : decode cX11_wouldFail 125 = .ok (.aload_n 0, 1) := by decide +kernel
theorem dX11_wouldFail_126 : decode cX11_wouldFail 126 = .ok (.getfield 40, 3) := by decide +kernel
theorem dX11_wouldFail_129 : decode cX11_wouldFail 129 = .ok (.iload_n 1, 1) := by decide +kernel
theorem dX11_wouldFail_130 : decode cX11_wouldFail 130 = .ok (.baload, 1) := by decide +kernel
theorem dX11_wouldFail_131 : decode cX11_wouldFail 131 = .ok (.ifCond .eq 8, 3) := by decide +kernel
theorem dX11_wouldFail_134 : decode cX11_wouldFail 134 = .ok (.iload 4, 2) := by decide +kernel
theorem dX11_wouldFail_136 : decode cX11_wouldFail 136 = .ok (.goto 4, 3) := by decide +kernel
theorem dX11_wouldFail_139 : decode cX11_wouldFail 139 = .ok (.iload_n 3, 1) := by decide +kernel
theorem dX11_wouldFail_140 : decode cX11_wouldFail 140 = .ok (.ireturn, 1) := by decide +kernel
theorem dX11_findFails_0 : decode cX11_findFails 0 = .ok (.iconst 0, 1) := by decide +kernel
theorem dX11_findFails_1 : decode cX11_findFails 1 = .ok (.istore_n 2, 1) := by decide +kernel
theorem dX11_findFails_2 : decode cX11_findFails 2 = .ok (.iload_n 2, 1) := by decide +kernel
theorem dX11_findFails_3 : decode cX11_findFails 3 = .ok (.aload_n 0, 1) := by decide +kernel
theorem dX11_findFails_4 : decode cX11_findFails 4 = .ok (.getfield 215, 3) := by decide +kernel
theorem dX11_findFails_7 : decode cX11_findFails 7 = .ok (.if_icmp .ge 30, 3) := by decide +kernel
theorem dX11_findFails_10 : decode cX11_findFails 10 = .ok (.aload_n 0, 1) := by decide +kernel
theorem dX11_findFails_11 : decode cX11_findFails 11 = .ok (.getfield 83, 3) := by decide +kernel
theorem dX11_findFails_14 : decode cX11_findFails 14 = .ok (.iload_n 2, 1) := by decide +kernel
theorem dX11_findFails_15 : decode cX11_findFails 15 = .ok (.iload_n 1, 1) := by decide +kernel
theorem dX11_findFails_16 : decode cX11_findFails 16 = .ok (.iload_n 2, 1) := by decide +kernel
theorem dX11_findFails_17 : decode cX11_findFails 17 = .ok (.ishr, 1) := by decide +kernel
theorem dX11_findFails_18 : decode cX11_findFails 18 = .ok (.iconst 1, 1) := by decide +kernel
theorem dX11_findFails_19 : decode cX11_findFails 19 = .ok (.iand, 1) := by decide +kernel
theorem dX11_findFails_20 : decode cX11_findFails 20 = .ok (.iconst 1, 1) := by decide +kernel
theorem dX11_findFails_21 : decode cX11_findFails 21 = .ok (.if_icmp .ne 7, 3) := by decide +kernel
theorem dX11_findFails_24 : decode cX11_findFails 24 = .ok (.iconst 0, 1) := by decide +kernel
theorem dX11_findFails_25 : decode cX11_findFails 25 = .ok (.goto 5, 3) := by decide +kernel
theorem dX11_findFails_28 : decode cX11_findFails 28 = .ok (.ldc 233, 2) := by decide +kernel
theorem dX11_findFails_30 : decode cX11_findFails 30 = .ok (.iastore, 1) := by decide +kernel
theorem dX11_findFails_31 : decode cX11_findFails 31 = .ok (.iinc 2 1, 3) := by decide +kernel
theorem dX11_findFails_34 : decode cX11_findFails 34 = .ok (.goto (-32), 3) := by decide +kernel
theorem dX11_findFails_37 : decode cX11_findFails 37 = .ok (.iconst 0, 1) := by decide +kernel
theorem dX11_findFails_38 : decode cX11_findFails 38 = .ok (.istore_n 2, 1) := by decide +kernel
theorem dX11_findFails_39 : decode cX11_findFails 39 = .ok (.iload_n 2, 1) := by decide +kernel
theorem dX11_findFails_40 : decode cX11_findFails 40 = .ok (.iconst (-1), 1) := by decide +kernel
theorem dX11_findFails_41 : decode cX11_findFails 41 = .ok (.if_icmp .eq 76, 3) := by decide +kernel
theorem dX11_findFails_44 : decode cX11_findFails 44 = .ok (.iconst (-1), 1) := by decide +kernel
theorem dX11_findFails_45 : decode cX11_findFails 45 = .ok (.istore_n 2, 1) := by decide +kernel
theorem dX11_findFails_46 : decode cX11_findFails 46 = .ok (.ldc 233, 2) := by decide +kernel
theorem dX11_findFails_48 : decode cX11_findFails 48 = .ok (.istore_n 3, 1) := by decide +kernel
theorem dX11_findFails_49 : decode cX11_findFails 49 = .ok (.iconst 0, 1) := by decide +kernel
theorem dX11_findFails_50 : decode cX11_findFails 50 = .ok (.istore 4, 2) := by decide +kernel
theorem dX11_findFails_52 : decode cX11_findFails 52 = .ok (.iload 4, 2) := by decide +kernel
theorem dX11_findFails_54 : decode cX11_findFails 54 = .ok (.aload_n 0, 1) := by decide +kernel
theorem dX11_findFails_55 : decode cX11_findFails 55 = .ok (.getfield 215, 3) := by decide +kernel
theorem dX11_findFails_58 : decode cX11_findFails 58 = .ok (.if_icmp .ge 44, 3) := by decide +kernel
theorem dX11_findFails_61 : decode cX11_findFails 61 = .ok (.aload_n 0, 1) := by decide +kernel
theorem dX11_findFails_62 : decode cX11_findFails 62 = .ok (.getfield 83, 3) := by decide +kernel
theorem dX11_findFails_65 : decode cX11_findFails 65 = .ok (.iload 4, 2) := by decide +kernel
theorem dX11_findFails_67 : decode cX11_findFails 67 = .ok (.iaload, 1) := by decide +kernel
theorem dX11_findFails_68 : decode cX11_findFails 68 = .ok (.ldc 233, 2) := by decide +kernel
theorem dX11_findFails_70 : decode cX11_findFails 70 = .ok (.if_icmp .ne 26, 3) := by decide +kernel
theorem dX11_findFails_73 : decode cX11_findFails 73 = .ok (.aload_n 0, 1) := by decide +kernel
theorem dX11_findFails_74 : decode cX11_findFails 74 = .ok (.iload 4, 2) := by decide +kernel
theorem dX11_findFails_76 : decode cX11_findFails 76 = .ok (.invokevirtual 234, 3) := by decide +kernel
theorem dX11_findFails_79 : decode cX11_findFails 79 = .ok (.iload_n 3, 1) := by decide +kernel
theorem dX11_findFails_80 : decode cX11_findFails 80 = .ok (.if_icmp .lt 6, 3) := by decide +kernel
theorem dX11_findFails_83 : decode cX11_findFails 83 = .ok (.goto 13, 3) := by decide +kernel
theorem dX11_findFails_86 : decode cX11_findFails 86 = .ok (.aload_n 0, 1) := by decide +kernel
theorem dX11_findFails_87 : decode cX11_findFails 87 = .ok (.iload 4, 2) := by decide +kernel
theorem dX11_findFails_89 : decode cX11_findFails 89 = .ok (.invokevirtual 234, 3) := by decide +kernel
theorem dX11_findFails_92 : decode cX11_findFails 92 = .ok (.istore_n 3, 1) := by decide +kernel
theorem dX11_findFails_93 : decode cX11_findFails 93 = .ok (.iload 4, 2) := by decide +kernel
theorem dX11_findFails_95 : decode cX11_findFails 95 = .ok (.istore_n 2, 1) := by decide +kernel
theorem dX11_findFails_96 : decode cX11_findFails 96 = .ok (.iinc 4 1, 3) := by decide +kernel
theorem dX11_findFails_99 : decode cX11_findFails 99 = .ok (.goto (-47), 3) := by decide +kernel
theorem dX11_findFails_102 : decode cX11_findFails 102 = .ok (.iload_n 2, 1) := by decide +kernel
theorem dX11_findFails_103 : decode cX11_findFails 103 = .ok (.iconst (-1), 1) := by decide +kernel
theorem dX11_findFails_104 : decode cX11_findFails 104 = .ok (.if_icmp .eq 10, 3) := by decide +kernel
theorem dX11_findFails_107 : decode cX11_findFails 107 = .ok (.aload_n 0, 1) := by decide +kernel
theorem dX11_findFails_108 : decode cX11_findFails 108 = .ok (.getfield 83, 3) := by decide +kernel
theorem dX11_findFails_111 : decode cX11_findFails 111 = .ok (.iload_n 2, 1) := by decide +kernel
theorem dX11_findFails_112 : decode cX11_findFails 112 = .ok (.iload_n 3, 1) := by decide +kernel
theorem dX11_findFails_113 : decode cX11_findFails 113 = .ok (.iastore, 1) := by decide +kernel
theorem dX11_findFails_114 : decode cX11_findFails 114 = .ok (.goto (-75), 3) := by decide +kernel
theorem dX11_findFails_117 : decode cX11_findFails 117 = .ok (.return_, 1) := by decide +kernel
theorem dX11_litAt_0 : decode cX11_litAt 0 = .ok (.iload_n 2, 1) := by decide +kernel
theorem dX11_litAt_1 : decode cX11_litAt 1 = .ok (.ifCond .eq 29, 3) := by decide +kernel
theorem dX11_litAt_4 : decode cX11_litAt 4 = .ok (.aload_n 0, 1) := by decide +kernel
theorem dX11_litAt_5 : decode cX11_litAt 5 = .ok (.getfield 58, 3) := by decide +kernel
theorem dX11_litAt_8 : decode cX11_litAt 8 = .ok (.iload_n 1, 1) := by decide +kernel
theorem dX11_litAt_9 : decode cX11_litAt 9 = .ok (.iaload, 1) := by decide +kernel
theorem dX11_litAt_10 : decode cX11_litAt 10 = .ok (.ifCond .eq 20, 3) := by decide +kernel
theorem dX11_litAt_13 : decode cX11_litAt 13 = .ok (.aload_n 0, 1) := by decide +kernel
theorem dX11_litAt_14 : decode cX11_litAt 14 = .ok (.getfield 58, 3) := by decide +kernel
theorem dX11_litAt_17 : decode cX11_litAt 17 = .ok (.iload_n 1, 1) := by decide +kernel
theorem dX11_litAt_18 : decode cX11_litAt 18 = .ok (.iaload, 1) := by decide +kernel
theorem dX11_litAt_19 : decode cX11_litAt 19 = .ok (.iconst 1, 1) := by decide +kernel
theorem dX11_litAt_20 : decode cX11_litAt 20 = .ok (.if_icmp .ne 7, 3) := by decide +kernel
theorem dX11_litAt_23 : decode cX11_litAt 23 = .ok (.iconst 0, 1) := by decide +kernel
theorem dX11_litAt_24 : decode cX11_litAt 24 = .ok (.goto 5, 3) := by decide +kernel
theorem dX11_litAt_27 : decode cX11_litAt 27 = .ok (.ldc 233, 2) := by decide +kernel
theorem dX11_litAt_29 : decode cX11_litAt 29 = .ok (.ireturn, 1) := by decide +kernel
theorem dX11_litAt_30 : decode cX11_litAt 30 = .ok (.aload_n 0, 1) := by decide +kernel
theorem dX11_litAt_31 : decode cX11_litAt 31 = .ok (.getfield 83, 3) := by decide +kernel
theorem dX11_litAt_34 : decode cX11_litAt 34 = .ok (.aload_n 0, 1) := by decide +kernel
theorem dX11_litAt_35 : decode cX11_litAt 35 = .ok (.getfield 52, 3) := by decide +kernel
theorem dX11_litAt_38 : decode cX11_litAt 38 = .ok (.iload_n 1, 1) := by decide +kernel
theorem dX11_litAt_39 : decode cX11_litAt 39 = .ok (.iaload, 1) := by decide +kernel
theorem dX11_litAt_40 : decode cX11_litAt 40 = .ok (.iaload, 1) := by decide +kernel
theorem dX11_litAt_41 : decode cX11_litAt 41 = .ok (.ldc 233, 2) := by decide +kernel
theorem dX11_litAt_43 : decode cX11_litAt 43 = .ok (.if_icmp .ne 8, 3) := by decide +kernel
theorem dX11_litAt_46 : decode cX11_litAt 46 = .ok (.ldc 233, 2) := by decide +kernel
theorem dX11_litAt_48 : decode cX11_litAt 48 = .ok (.goto 21, 3) := by decide +kernel
theorem dX11_litAt_51 : decode cX11_litAt 51 = .ok (.aload_n 0, 1) := by decide +kernel
theorem dX11_litAt_52 : decode cX11_litAt 52 = .ok (.getfield 83, 3) := by decide +kernel
theorem dX11_litAt_55 : decode cX11_litAt 55 = .ok (.aload_n 0, 1) := by decide +kernel
theorem dX11_litAt_56 : decode cX11_litAt 56 = .ok (.getfield 52, 3) := by decide +kernel
theorem dX11_litAt_59 : decode cX11_litAt 59 = .ok (.iload_n 1, 1) := by decide +kernel
theorem dX11_litAt_60 : decode cX11_litAt 60 = .ok (.iaload, 1) := by decide +kernel
theorem dX11_litAt_61 : decode cX11_litAt 61 = .ok (.iaload, 1) := by decide +kernel
theorem dX11_litAt_62 : decode cX11_litAt 62 = .ok (.aload_n 0, 1) := by decide +kernel
theorem dX11_litAt_63 : decode cX11_litAt 63 = .ok (.getfield 55, 3) := by decide +kernel
theorem dX11_litAt_66 : decode cX11_litAt 66 = .ok (.iload_n 1, 1) := by decide +kernel
theorem dX11_litAt_67 : decode cX11_litAt 67 = .ok (.iaload, 1) := by decide +kernel
theorem dX11_litAt_68 : decode cX11_litAt 68 = .ok (.iadd, 1) := by decide +kernel
theorem dX11_litAt_69 : decode cX11_litAt 69 = .ok (.ireturn, 1) := by decide +kernel
theorem dX11_fails_0 : decode cX11_fails 0 = .ok (.aload_n 0, 1) := by decide +kernel
theorem dX11_fails_1 : decode cX11_fails 1 = .ok (.iload_n 1, 1) := by decide +kernel
theorem dX11_fails_2 : decode cX11_fails 2 = .ok (.invokevirtual 238, 3) := by decide +kernel
theorem dX11_fails_5 : decode cX11_fails 5 = .ok (.ifCond .eq 11, 3) := by decide +kernel
theorem dX11_fails_8 : decode cX11_fails 8 = .ok (.aload_n 0, 1) := by decide +kernel
theorem dX11_fails_9 : decode cX11_fails 9 = .ok (.iload_n 2, 1) := by decide +kernel
theorem dX11_fails_10 : decode cX11_fails 10 = .ok (.invokevirtual 241, 3) := by decide +kernel
theorem dX11_fails_13 : decode cX11_fails 13 = .ok (.ifCond .ne 5, 3) := by decide +kernel
theorem dX11_fails_16 : decode cX11_fails 16 = .ok (.iconst (-1), 1) := by decide +kernel
theorem dX11_fails_17 : decode cX11_fails 17 = .ok (.ireturn, 1) := by decide +kernel
theorem dX11_fails_18 : decode cX11_fails 18 = .ok (.aload_n 0, 1) := by decide +kernel
theorem dX11_fails_19 : decode cX11_fails 19 = .ok (.iload_n 1, 1) := by decide +kernel
theorem dX11_fails_20 : decode cX11_fails 20 = .ok (.invokevirtual 244, 3) := by decide +kernel
theorem dX11_fails_23 : decode cX11_fails 23 = .ok (.aload_n 0, 1) := by decide +kernel
theorem dX11_fails_24 : decode cX11_fails 24 = .ok (.getfield 83, 3) := by decide +kernel
theorem dX11_fails_27 : decode cX11_fails 27 = .ok (.iload_n 2, 1) := by decide +kernel
theorem dX11_fails_28 : decode cX11_fails 28 = .ok (.iaload, 1) := by decide +kernel
theorem dX11_fails_29 : decode cX11_fails 29 = .ok (.ldc 233, 2) := by decide +kernel
theorem dX11_fails_31 : decode cX11_fails 31 = .ok (.if_icmp .ne 7, 3) := by decide +kernel
theorem dX11_fails_34 : decode cX11_fails 34 = .ok (.iconst (-1), 1) := by decide +kernel
theorem dX11_fails_35 : decode cX11_fails 35 = .ok (.goto 9, 3) := by decide +kernel
theorem dX11_fails_38 : decode cX11_fails 38 = .ok (.aload_n 0, 1) := by decide +kernel
theorem dX11_fails_39 : decode cX11_fails 39 = .ok (.getfield 83, 3) := by decide +kernel
theorem dX11_fails_42 : decode cX11_fails 42 = .ok (.iload_n 2, 1) := by decide +kernel
theorem dX11_fails_43 : decode cX11_fails 43 = .ok (.iaload, 1) := by decide +kernel
theorem dX11_fails_44 : decode cX11_fails 44 = .ok (.ireturn, 1) := by decide +kernel
theorem dX11_lit_0 : decode cX11_lit 0 = .ok (.aload_n 0, 1) := by decide +kernel
theorem dX11_lit_1 : decode cX11_lit 1 = .ok (.iload_n 1, 1) := by decide +kernel
theorem dX11_lit_2 : decode cX11_lit 2 = .ok (.invokevirtual 238, 3) := by decide +kernel
theorem dX11_lit_5 : decode cX11_lit 5 = .ok (.ifCond .eq 11, 3) := by decide +kernel
theorem dX11_lit_8 : decode cX11_lit 8 = .ok (.aload_n 0, 1) := by decide +kernel
theorem dX11_lit_9 : decode cX11_lit 9 = .ok (.iload_n 2, 1) := by decide +kernel
theorem dX11_lit_10 : decode cX11_lit 10 = .ok (.invokevirtual 230, 3) := by decide +kernel
theorem dX11_lit_13 : decode cX11_lit 13 = .ok (.ifCond .ne 5, 3) := by decide +kernel
theorem dX11_lit_16 : decode cX11_lit 16 = .ok (.iconst (-1), 1) := by decide +kernel
theorem dX11_lit_17 : decode cX11_lit 17 = .ok (.ireturn, 1) := by decide +kernel
theorem dX11_lit_18 : decode cX11_lit 18 = .ok (.aload_n 0, 1) := by decide +kernel
theorem dX11_lit_19 : decode cX11_lit 19 = .ok (.iload_n 1, 1) := by decide +kernel
theorem dX11_lit_20 : decode cX11_lit 20 = .ok (.invokevirtual 244, 3) := by decide +kernel
theorem dX11_lit_23 : decode cX11_lit 23 = .ok (.aload_n 0, 1) := by decide +kernel
theorem dX11_lit_24 : decode cX11_lit 24 = .ok (.iload_n 2, 1) := by decide +kernel
theorem dX11_lit_25 : decode cX11_lit 25 = .ok (.iconst 1, 1) := by decide +kernel
theorem dX11_lit_26 : decode cX11_lit 26 = .ok (.invokevirtual 248, 3) := by decide +kernel
theorem dX11_lit_29 : decode cX11_lit 29 = .ok (.istore_n 3, 1) := by decide +kernel
theorem dX11_lit_30 : decode cX11_lit 30 = .ok (.iload_n 3, 1) := by decide +kernel
theorem dX11_lit_31 : decode cX11_lit 31 = .ok (.ldc 233, 2) := by decide +kernel
theorem dX11_lit_33 : decode cX11_lit 33 = .ok (.if_icmp .ne 7, 3) := by decide +kernel
theorem dX11_lit_36 : decode cX11_lit 36 = .ok (.iconst (-1), 1) := by decide +kernel
theorem dX11_lit_37 : decode cX11_lit 37 = .ok (.goto 4, 3) := by decide +kernel
theorem dX11_lit_40 : decode cX11_lit 40 = .ok (.iload_n 3, 1) := by decide +kernel
theorem dX11_lit_41 : decode cX11_lit 41 = .ok (.ireturn, 1) := by decide +kernel
theorem dX11_firstFrom_0 : decode cX11_firstFrom 0 = .ok (.iconst (-1), 1) := by decide +kernel
theorem dX11_firstFrom_1 : decode cX11_firstFrom 1 = .ok (.istore_n 2, 1) := by decide +kernel
theorem dX11_firstFrom_2 : decode cX11_firstFrom 2 = .ok (.iconst 0, 1) := by decide +kernel
theorem dX11_firstFrom_3 : decode cX11_firstFrom 3 = .ok (.istore_n 3, 1) := by decide +kernel
theorem dX11_firstFrom_4 : decode cX11_firstFrom 4 = .ok (.iload_n 3, 1) := by decide +kernel
theorem dX11_firstFrom_5 : decode cX11_firstFrom 5 = .ok (.aload_n 0, 1) := by decide +kernel
theorem dX11_firstFrom_6 : decode cX11_firstFrom 6 = .ok (.getfield 221, 3) := by decide +kernel
theorem dX11_firstFrom_9 : decode cX11_firstFrom 9 = .ok (.if_icmp .ge 60, 3) := by decide +kernel
theorem dX11_firstFrom_12 : decode cX11_firstFrom 12 = .ok (.aload_n 0, 1) := by decide +kernel
theorem dX11_firstFrom_13 : decode cX11_firstFrom 13 = .ok (.iload_n 3, 1) := by decide +kernel
theorem dX11_firstFrom_14 : decode cX11_firstFrom 14 = .ok (.iconst 1, 1) := by decide +kernel
theorem dX11_firstFrom_15 : decode cX11_firstFrom 15 = .ok (.invokevirtual 248, 3) := by decide +kernel
theorem dX11_firstFrom_18 : decode cX11_firstFrom 18 = .ok (.istore 4, 2) := by decide +kernel
theorem dX11_firstFrom_20 : decode cX11_firstFrom 20 = .ok (.aload_n 0, 1) := by decide +kernel
theorem dX11_firstFrom_21 : decode cX11_firstFrom 21 = .ok (.getfield 58, 3) := by decide +kernel
theorem dX11_firstFrom_24 : decode cX11_firstFrom 24 = .ok (.iload_n 3, 1) := by decide +kernel
theorem dX11_firstFrom_25 : decode cX11_firstFrom 25 = .ok (.iaload, 1) := by decide +kernel
theorem dX11_firstFrom_26 : decode cX11_firstFrom 26 = .ok (.ifCond .ne 37, 3) := by decide +kernel
theorem dX11_firstFrom_29 : decode cX11_firstFrom 29 = .ok (.iload 4, 2) := by decide +kernel
theorem dX11_firstFrom_31 : decode cX11_firstFrom 31 = .ok (.ldc 233, 2) := by decide +kernel
theorem dX11_firstFrom_33 : decode cX11_firstFrom 33 = .ok (.if_icmp .eq 30, 3) := by decide +kernel
theorem dX11_firstFrom_36 : decode cX11_firstFrom 36 = .ok (.iload 4, 2) := by decide +kernel
theorem dX11_firstFrom_38 : decode cX11_firstFrom 38 = .ok (.iload_n 1, 1) := by decide +kernel
theorem dX11_firstFrom_39 : decode cX11_firstFrom 39 = .ok (.if_icmp .ge 6, 3) := by decide +kernel
theorem dX11_firstFrom_42 : decode cX11_firstFrom 42 = .ok (.goto 21, 3) := by decide +kernel
theorem dX11_firstFrom_45 : decode cX11_firstFrom 45 = .ok (.iload_n 2, 1) := by decide +kernel
theorem dX11_firstFrom_46 : decode cX11_firstFrom 46 = .ok (.iconst (-1), 1) := by decide +kernel
theorem dX11_firstFrom_47 : decode cX11_firstFrom 47 = .ok (.if_icmp .eq 14, 3) := by decide +kernel
theorem dX11_firstFrom_50 : decode cX11_firstFrom 50 = .ok (.iload 4, 2) := by decide +kernel
theorem dX11_firstFrom_52 : decode cX11_firstFrom 52 = .ok (.aload_n 0, 1) := by decide +kernel
theorem dX11_firstFrom_53 : decode cX11_firstFrom 53 = .ok (.iload_n 2, 1) := by decide +kernel
theorem dX11_firstFrom_54 : decode cX11_firstFrom 54 = .ok (.iconst 1, 1) := by decide +kernel
theorem dX11_firstFrom_55 : decode cX11_firstFrom 55 = .ok (.invokevirtual 248, 3) := by decide +kernel
theorem dX11_firstFrom_58 : decode cX11_firstFrom 58 = .ok (.if_icmp .ge 5, 3) := by decide +kernel
theorem dX11_firstFrom_61 : decode cX11_firstFrom 61 = .ok (.iload_n 3, 1) := by decide +kernel
theorem dX11_firstFrom_62 : decode cX11_firstFrom 62 = .ok (.istore_n 2, 1) := by decide +kernel
theorem dX11_firstFrom_63 : decode cX11_firstFrom 63 = .ok (.iinc 3 1, 3) := by decide +kernel
theorem dX11_firstFrom_66 : decode cX11_firstFrom 66 = .ok (.goto (-62), 3) := by decide +kernel
theorem dX11_firstFrom_69 : decode cX11_firstFrom 69 = .ok (.iload_n 2, 1) := by decide +kernel
theorem dX11_firstFrom_70 : decode cX11_firstFrom 70 = .ok (.ireturn, 1) := by decide +kernel
theorem dX11_first_0 : decode cX11_first 0 = .ok (.aload_n 0, 1) := by decide +kernel
theorem dX11_first_1 : decode cX11_first 1 = .ok (.iload_n 1, 1) := by decide +kernel
theorem dX11_first_2 : decode cX11_first 2 = .ok (.invokevirtual 238, 3) := by decide +kernel
theorem dX11_first_5 : decode cX11_first 5 = .ok (.ifCond .eq 12, 3) := by decide +kernel
theorem dX11_first_8 : decode cX11_first 8 = .ok (.iload_n 2, 1) := by decide +kernel
theorem dX11_first_9 : decode cX11_first 9 = .ok (.iconst 0, 1) := by decide +kernel
theorem dX11_first_10 : decode cX11_first 10 = .ok (.iconst 1, 1) := by decide +kernel
theorem dX11_first_11 : decode cX11_first 11 = .ok (.invokestatic 98, 3) := by decide +kernel
theorem dX11_first_14 : decode cX11_first 14 = .ok (.ifCond .ne 5, 3) := by decide +kernel
theorem dX11_first_17 : decode cX11_first 17 = .ok (.iconst (-1), 1) := by decide +kernel
theorem dX11_first_18 : decode cX11_first 18 = .ok (.ireturn, 1) := by decide +kernel
theorem dX11_first_19 : decode cX11_first 19 = .ok (.aload_n 0, 1) := by decide +kernel
theorem dX11_first_20 : decode cX11_first 20 = .ok (.iload_n 1, 1) := by decide +kernel
theorem dX11_first_21 : decode cX11_first 21 = .ok (.invokevirtual 244, 3) := by decide +kernel
theorem dX11_first_24 : decode cX11_first 24 = .ok (.aload_n 0, 1) := by decide +kernel
theorem dX11_first_25 : decode cX11_first 25 = .ok (.iconst 0, 1) := by decide +kernel
theorem dX11_first_26 : decode cX11_first 26 = .ok (.invokevirtual 252, 3) := by decide +kernel
theorem dX11_first_29 : decode cX11_first 29 = .ok (.istore_n 3, 1) := by decide +kernel
theorem dX11_first_30 : decode cX11_first 30 = .ok (.iload_n 3, 1) := by decide +kernel
theorem dX11_first_31 : decode cX11_first 31 = .ok (.iconst (-1), 1) := by decide +kernel
theorem dX11_first_32 : decode cX11_first 32 = .ok (.if_icmp .eq 7, 3) := by decide +kernel
theorem dX11_first_35 : decode cX11_first 35 = .ok (.iload_n 2, 1) := by decide +kernel
theorem dX11_first_36 : decode cX11_first 36 = .ok (.ifCond .ne 7, 3) := by decide +kernel
theorem dX11_first_39 : decode cX11_first 39 = .ok (.iload_n 3, 1) := by decide +kernel
theorem dX11_first_40 : decode cX11_first 40 = .ok (.goto 21, 3) := by decide +kernel
theorem dX11_first_43 : decode cX11_first 43 = .ok (.iload_n 1, 1) := by decide +kernel
theorem dX11_first_44 : decode cX11_first 44 = .ok (.aload_n 0, 1) := by decide +kernel
theorem dX11_first_45 : decode cX11_first 45 = .ok (.getfield 52, 3) := by decide +kernel
theorem dX11_first_48 : decode cX11_first 48 = .ok (.iload_n 3, 1) := by decide +kernel
theorem dX11_first_49 : decode cX11_first 49 = .ok (.iaload, 1) := by decide +kernel
theorem dX11_first_50 : decode cX11_first 50 = .ok (.ishr, 1) := by decide +kernel
theorem dX11_first_51 : decode cX11_first 51 = .ok (.iconst 1, 1) := by decide +kernel
theorem dX11_first_52 : decode cX11_first 52 = .ok (.iand, 1) := by decide +kernel
theorem dX11_first_53 : decode cX11_first 53 = .ok (.ifCond .ne 7, 3) := by decide +kernel
theorem dX11_first_56 : decode cX11_first 56 = .ok (.iconst 1, 1) := by decide +kernel
theorem dX11_first_57 : decode cX11_first 57 = .ok (.goto 4, 3) := by decide +kernel
theorem dX11_first_60 : decode cX11_first 60 = .ok (.iconst 0, 1) := by decide +kernel
theorem dX11_first_61 : decode cX11_first 61 = .ok (.ireturn, 1) := by decide +kernel
theorem dX11_horns_0 : decode cX11_horns 0 = .ok (.aload_n 0, 1) := by decide +kernel
theorem dX11_horns_1 : decode cX11_horns 1 = .ok (.iload_n 1, 1) := by decide +kernel
theorem dX11_horns_2 : decode cX11_horns 2 = .ok (.invokevirtual 238, 3) := by decide +kernel
theorem dX11_horns_5 : decode cX11_horns 5 = .ok (.ifCond .eq 13, 3) := by decide +kernel
theorem dX11_horns_8 : decode cX11_horns 8 = .ok (.iload_n 2, 1) := by decide +kernel
theorem dX11_horns_9 : decode cX11_horns 9 = .ok (.iconst 1, 1) := by decide +kernel
theorem dX11_horns_10 : decode cX11_horns 10 = .ok (.bipush 60, 2) := by decide +kernel
theorem dX11_horns_12 : decode cX11_horns 12 = .ok (.invokestatic 98, 3) := by decide +kernel
theorem dX11_horns_15 : decode cX11_horns 15 = .ok (.ifCond .ne 5, 3) := by decide +kernel
theorem dX11_horns_18 : decode cX11_horns 18 = .ok (.iconst (-1), 1) := by decide +kernel
theorem dX11_horns_19 : decode cX11_horns 19 = .ok (.ireturn, 1) := by decide +kernel
theorem dX11_horns_20 : decode cX11_horns 20 = .ok (.aload_n 0, 1) := by decide +kernel
theorem dX11_horns_21 : decode cX11_horns 21 = .ok (.iload_n 1, 1) := by decide +kernel
theorem dX11_horns_22 : decode cX11_horns 22 = .ok (.invokevirtual 244, 3) := by decide +kernel
theorem dX11_horns_25 : decode cX11_horns 25 = .ok (.iconst 0, 1) := by decide +kernel
theorem dX11_horns_26 : decode cX11_horns 26 = .ok (.istore_n 3, 1) := by decide +kernel
theorem dX11_horns_27 : decode cX11_horns 27 = .ok (.iconst 0, 1) := by decide +kernel
theorem dX11_horns_28 : decode cX11_horns 28 = .ok (.istore 4, 2) := by decide +kernel
theorem dX11_horns_30 : decode cX11_horns 30 = .ok (.aload_n 0, 1) := by decide +kernel
theorem dX11_horns_31 : decode cX11_horns 31 = .ok (.iload 4, 2) := by decide +kernel
theorem dX11_horns_33 : decode cX11_horns 33 = .ok (.invokevirtual 252, 3) := by decide +kernel
theorem dX11_horns_36 : decode cX11_horns 36 = .ok (.istore 5, 2) := by decide +kernel
theorem dX11_horns_38 : decode cX11_horns 38 = .ok (.iload 5, 2) := by decide +kernel
theorem dX11_horns_40 : decode cX11_horns 40 = .ok (.iconst (-1), 1) := by decide +kernel
theorem dX11_horns_41 : decode cX11_horns 41 = .ok (.if_icmp .eq 28, 3) := by decide +kernel
theorem dX11_horns_44 : decode cX11_horns 44 = .ok (.iinc 3 1, 3) := by decide +kernel
theorem dX11_horns_47 : decode cX11_horns 47 = .ok (.aload_n 0, 1) := by decide +kernel
theorem dX11_horns_48 : decode cX11_horns 48 = .ok (.iload 5, 2) := by decide +kernel
theorem dX11_horns_50 : decode cX11_horns 50 = .ok (.iconst 1, 1) := by decide +kernel
theorem dX11_horns_51 : decode cX11_horns 51 = .ok (.invokevirtual 248, 3) := by decide +kernel
theorem dX11_horns_54 : decode cX11_horns 54 = .ok (.iload_n 2, 1) := by decide +kernel
theorem dX11_horns_55 : decode cX11_horns 55 = .ok (.iadd, 1) := by decide +kernel
theorem dX11_horns_56 : decode cX11_horns 56 = .ok (.istore 4, 2) := by decide +kernel
theorem dX11_horns_58 : decode cX11_horns 58 = .ok (.aload_n 0, 1) := by decide +kernel
theorem dX11_horns_59 : decode cX11_horns 59 = .ok (.iload 4, 2) := by decide +kernel
theorem dX11_horns_61 : decode cX11_horns 61 = .ok (.invokevirtual 252, 3) := by decide +kernel
theorem dX11_horns_64 : decode cX11_horns 64 = .ok (.istore 5, 2) := by decide +kernel
theorem dX11_horns_66 : decode cX11_horns 66 = .ok (.goto (-28), 3) := by decide +kernel
theorem dX11_horns_69 : decode cX11_horns 69 = .ok (.iload_n 3, 1) := by decide +kernel
theorem dX11_horns_70 : decode cX11_horns 70 = .ok (.ireturn, 1) := by decide +kernel
theorem dX11_log_0 : decode cX11_log 0 = .ok (.aload_n 0, 1) := by decide +kernel
theorem dX11_log_1 : decode cX11_log 1 = .ok (.iload_n 1, 1) := by decide +kernel
theorem dX11_log_2 : decode cX11_log 2 = .ok (.invokevirtual 230, 3) := by decide +kernel
theorem dX11_log_5 : decode cX11_log 5 = .ok (.ifCond .eq 44, 3) := by decide +kernel
theorem dX11_log_8 : decode cX11_log 8 = .ok (.iload_n 2, 1) := by decide +kernel
theorem dX11_log_9 : decode cX11_log 9 = .ok (.aload_n 0, 1) := by decide +kernel
theorem dX11_log_10 : decode cX11_log 10 = .ok (.getfield 227, 3) := by decide +kernel
theorem dX11_log_13 : decode cX11_log 13 = .ok (.ifCond .ne 7, 3) := by decide +kernel
theorem dX11_log_16 : decode cX11_log 16 = .ok (.iconst 0, 1) := by decide +kernel
theorem dX11_log_17 : decode cX11_log 17 = .ok (.goto 14, 3) := by decide +kernel
theorem dX11_log_20 : decode cX11_log 20 = .ok (.aload_n 0, 1) := by decide +kernel
theorem dX11_log_21 : decode cX11_log 21 = .ok (.getfield 73, 3) := by decide +kernel
theorem dX11_log_24 : decode cX11_log 24 = .ok (.aload_n 0, 1) := by decide +kernel
theorem dX11_log_25 : decode cX11_log 25 = .ok (.getfield 227, 3) := by decide +kernel
theorem dX11_log_28 : decode cX11_log 28 = .ok (.iconst 1, 1) := by decide +kernel
theorem dX11_log_29 : decode cX11_log 29 = .ok (.isub, 1) := by decide +kernel
theorem dX11_log_30 : decode cX11_log 30 = .ok (.iaload, 1) := by decide +kernel
theorem dX11_log_31 : decode cX11_log 31 = .ok (.sipush 999, 3) := by decide +kernel
theorem dX11_log_34 : decode cX11_log 34 = .ok (.invokestatic 98, 3) := by decide +kernel
theorem dX11_log_37 : decode cX11_log 37 = .ok (.ifCond .eq 12, 3) := by decide +kernel
theorem dX11_log_40 : decode cX11_log 40 = .ok (.aload_n 0, 1) := by decide +kernel
theorem dX11_log_41 : decode cX11_log 41 = .ok (.getfield 227, 3) := by decide +kernel
theorem dX11_log_44 : decode cX11_log 44 = .ok (.bipush 60, 2) := by decide +kernel
theorem dX11_log_46 : decode cX11_log 46 = .ok (.if_icmp .ne 5, 3) := by decide +kernel
theorem dX11_log_49 : decode cX11_log 49 = .ok (.iconst (-1), 1) := by decide +kernel
theorem dX11_log_50 : decode cX11_log 50 = .ok (.ireturn, 1) := by decide +kernel
theorem dX11_log_51 : decode cX11_log 51 = .ok (.aload_n 0, 1) := by decide +kernel
theorem dX11_log_52 : decode cX11_log 52 = .ok (.getfield 70, 3) := by decide +kernel
theorem dX11_log_55 : decode cX11_log 55 = .ok (.aload_n 0, 1) := by decide +kernel
theorem dX11_log_56 : decode cX11_log 56 = .ok (.getfield 227, 3) := by decide +kernel
theorem dX11_log_59 : decode cX11_log 59 = .ok (.iload_n 1, 1) := by decide +kernel
theorem dX11_log_60 : decode cX11_log 60 = .ok (.iastore, 1) := by decide +kernel
theorem dX11_log_61 : decode cX11_log 61 = .ok (.aload_n 0, 1) := by decide +kernel
theorem dX11_log_62 : decode cX11_log 62 = .ok (.getfield 73, 3) := by decide +kernel
theorem dX11_log_65 : decode cX11_log 65 = .ok (.aload_n 0, 1) := by decide +kernel
theorem dX11_log_66 : decode cX11_log 66 = .ok (.getfield 227, 3) := by decide +kernel
theorem dX11_log_69 : decode cX11_log 69 = .ok (.iload_n 2, 1) := by decide +kernel
theorem dX11_log_70 : decode cX11_log 70 = .ok (.iastore, 1) := by decide +kernel
theorem dX11_log_71 : decode cX11_log 71 = .ok (.aload_n 0, 1) := by decide +kernel
theorem dX11_log_72 : decode cX11_log 72 = .ok (.dup, 1) := by decide +kernel
theorem dX11_log_73 : decode cX11_log 73 = .ok (.getfield 227, 3) := by decide +kernel
theorem dX11_log_76 : decode cX11_log 76 = .ok (.iconst 1, 1) := by decide +kernel
theorem dX11_log_77 : decode cX11_log 77 = .ok (.iadd, 1) := by decide +kernel
theorem dX11_log_78 : decode cX11_log 78 = .ok (.putfield 227, 3) := by decide +kernel
theorem dX11_log_81 : decode cX11_log 81 = .ok (.aload_n 0, 1) := by decide +kernel
theorem dX11_log_82 : decode cX11_log 82 = .ok (.getfield 227, 3) := by decide +kernel
theorem dX11_log_85 : decode cX11_log 85 = .ok (.ireturn, 1) := by decide +kernel
theorem dX11_erase_0 : decode cX11_erase 0 = .ok (.aload_n 0, 1) := by decide +kernel
theorem dX11_erase_1 : decode cX11_erase 1 = .ok (.getfield 227, 3) := by decide +kernel
theorem dX11_erase_4 : decode cX11_erase 4 = .ok (.istore_n 1, 1) := by decide +kernel
theorem dX11_erase_5 : decode cX11_erase 5 = .ok (.aload_n 0, 1) := by decide +kernel
theorem dX11_erase_6 : decode cX11_erase 6 = .ok (.iconst 0, 1) := by decide +kernel
theorem dX11_erase_7 : decode cX11_erase 7 = .ok (.putfield 227, 3) := by decide +kernel
theorem dX11_erase_10 : decode cX11_erase 10 = .ok (.iload_n 1, 1) := by decide +kernel
theorem dX11_erase_11 : decode cX11_erase 11 = .ok (.ireturn, 1) := by decide +kernel
theorem dX11_joined_0 : decode cX11_joined 0 = .ok (.iload_n 1, 1) := by decide +kernel
theorem dX11_joined_1 : decode cX11_joined 1 = .ok (.iconst 0, 1) := by decide +kernel
theorem dX11_joined_2 : decode cX11_joined 2 = .ok (.bipush 60, 2) := by decide +kernel
theorem dX11_joined_4 : decode cX11_joined 4 = .ok (.invokestatic 98, 3) := by decide +kernel
theorem dX11_joined_7 : decode cX11_joined 7 = .ok (.ifCond .ne 5, 3) := by decide +kernel
theorem dX11_joined_10 : decode cX11_joined 10 = .ok (.iconst (-1), 1) := by decide +kernel
theorem dX11_joined_11 : decode cX11_joined 11 = .ok (.ireturn, 1) := by decide +kernel
theorem dX11_joined_12 : decode cX11_joined 12 = .ok (.iconst 0, 1) := by decide +kernel
theorem dX11_joined_13 : decode cX11_joined 13 = .ok (.istore_n 2, 1) := by decide +kernel
theorem dX11_joined_14 : decode cX11_joined 14 = .ok (.iconst 0, 1) := by decide +kernel
theorem dX11_joined_15 : decode cX11_joined 15 = .ok (.istore_n 3, 1) := by decide +kernel
theorem dX11_joined_16 : decode cX11_joined 16 = .ok (.iload_n 3, 1) := by decide +kernel
theorem dX11_joined_17 : decode cX11_joined 17 = .ok (.aload_n 0, 1) := by decide +kernel
theorem dX11_joined_18 : decode cX11_joined 18 = .ok (.getfield 227, 3) := by decide +kernel
theorem dX11_joined_21 : decode cX11_joined 21 = .ok (.if_icmp .ge 72, 3) := by decide +kernel
theorem dX11_joined_24 : decode cX11_joined 24 = .ok (.iload_n 3, 1) := by decide +kernel
theorem dX11_joined_25 : decode cX11_joined 25 = .ok (.iconst 1, 1) := by decide +kernel
theorem dX11_joined_26 : decode cX11_joined 26 = .ok (.isub, 1) := by decide +kernel
theorem dX11_joined_27 : decode cX11_joined 27 = .ok (.istore 4, 2) := by decide +kernel
theorem dX11_joined_29 : decode cX11_joined 29 = .ok (.iload 4, 2) := by decide +kernel
theorem dX11_joined_31 : decode cX11_joined 31 = .ok (.ifCond .lt 25, 3) := by decide +kernel
theorem dX11_joined_34 : decode cX11_joined 34 = .ok (.aload_n 0, 1) := by decide +kernel
theorem dX11_joined_35 : decode cX11_joined 35 = .ok (.getfield 70, 3) := by decide +kernel
theorem dX11_joined_38 : decode cX11_joined 38 = .ok (.iload 4, 2) := by decide +kernel
theorem dX11_joined_40 : decode cX11_joined 40 = .ok (.iaload, 1) := by decide +kernel
theorem dX11_joined_41 : decode cX11_joined 41 = .ok (.aload_n 0, 1) := by decide +kernel
theorem dX11_joined_42 : decode cX11_joined 42 = .ok (.getfield 70, 3) := by decide +kernel
theorem dX11_joined_45 : decode cX11_joined 45 = .ok (.iload_n 3, 1) := by decide +kernel
theorem dX11_joined_46 : decode cX11_joined 46 = .ok (.iaload, 1) := by decide +kernel
theorem dX11_joined_47 : decode cX11_joined 47 = .ok (.if_icmp .eq 9, 3) := by decide +kernel
theorem dX11_joined_50 : decode cX11_joined 50 = .ok (.iinc 4 (-1), 3) := by decide +kernel
theorem dX11_joined_53 : decode cX11_joined 53 = .ok (.goto (-24), 3) := by decide +kernel
theorem dX11_joined_56 : decode cX11_joined 56 = .ok (.iload_n 2, 1) := by decide +kernel
theorem dX11_joined_57 : decode cX11_joined 57 = .ok (.iload 4, 2) := by decide +kernel
theorem dX11_joined_59 : decode cX11_joined 59 = .ok (.ifCond .lt 25, 3) := by decide +kernel
theorem dX11_joined_62 : decode cX11_joined 62 = .ok (.aload_n 0, 1) := by decide +kernel
theorem dX11_joined_63 : decode cX11_joined 63 = .ok (.getfield 73, 3) := by decide +kernel
theorem dX11_joined_66 : decode cX11_joined 66 = .ok (.iload_n 3, 1) := by decide +kernel
theorem dX11_joined_67 : decode cX11_joined 67 = .ok (.iaload, 1) := by decide +kernel
theorem dX11_joined_68 : decode cX11_joined 68 = .ok (.aload_n 0, 1) := by decide +kernel
theorem dX11_joined_69 : decode cX11_joined 69 = .ok (.getfield 73, 3) := by decide +kernel
theorem dX11_joined_72 : decode cX11_joined 72 = .ok (.iload 4, 2) := by decide +kernel
theorem dX11_joined_74 : decode cX11_joined 74 = .ok (.iaload, 1) := by decide +kernel
theorem dX11_joined_75 : decode cX11_joined 75 = .ok (.isub, 1) := by decide +kernel
theorem dX11_joined_76 : decode cX11_joined 76 = .ok (.iload_n 1, 1) := by decide +kernel
theorem dX11_joined_77 : decode cX11_joined 77 = .ok (.if_icmp .ge 7, 3) := by decide +kernel
theorem dX11_joined_80 : decode cX11_joined 80 = .ok (.iconst 0, 1) := by decide +kernel
theorem dX11_joined_81 : decode cX11_joined 81 = .ok (.goto 4, 3) := by decide +kernel
theorem dX11_joined_84 : decode cX11_joined 84 = .ok (.iconst 1, 1) := by decide +kernel
theorem dX11_joined_85 : decode cX11_joined 85 = .ok (.iadd, 1) := by decide +kernel
theorem dX11_joined_86 : decode cX11_joined 86 = .ok (.istore_n 2, 1) := by decide +kernel
theorem dX11_joined_87 : decode cX11_joined 87 = .ok (.iinc 3 1, 3) := by decide +kernel
theorem dX11_joined_90 : decode cX11_joined 90 = .ok (.goto (-74), 3) := by decide +kernel
theorem dX11_joined_93 : decode cX11_joined 93 = .ok (.iload_n 2, 1) := by decide +kernel
theorem dX11_joined_94 : decode cX11_joined 94 = .ok (.ireturn, 1) := by decide +kernel
theorem dX11_off_0 : decode cX11_off 0 = .ok (.iload_n 1, 1) := by decide +kernel
theorem dX11_off_1 : decode cX11_off 1 = .ok (.iconst 0, 1) := by decide +kernel
theorem dX11_off_2 : decode cX11_off 2 = .ok (.bipush 20, 2) := by decide +kernel
theorem dX11_off_4 : decode cX11_off 4 = .ok (.invokestatic 98, 3) := by decide +kernel
theorem dX11_off_7 : decode cX11_off 7 = .ok (.ifCond .ne 5, 3) := by decide +kernel
theorem dX11_off_10 : decode cX11_off 10 = .ok (.iconst 0, 1) := by decide +kernel
theorem dX11_off_11 : decode cX11_off 11 = .ok (.ireturn, 1) := by decide +kernel
theorem dX11_off_12 : decode cX11_off 12 = .ok (.aload_n 0, 1) := by decide +kernel
theorem dX11_off_13 : decode cX11_off 13 = .ok (.iload_n 1, 1) := by decide +kernel
theorem dX11_off_14 : decode cX11_off 14 = .ok (.putfield 255, 3) := by decide +kernel
theorem dX11_off_17 : decode cX11_off 17 = .ok (.iconst 1, 1) := by decide +kernel
theorem dX11_off_18 : decode cX11_off 18 = .ok (.ireturn, 1) := by decide +kernel
theorem dX11_findFirstRows_0 : decode cX11_findFirstRows 0 = .ok (.iconst 0, 1) := by decide +kernel
theorem dX11_findFirstRows_1 : decode cX11_findFirstRows 1 = .ok (.istore_n 1, 1) := by decide +kernel
theorem dX11_findFirstRows_2 : decode cX11_findFirstRows 2 = .ok (.iload_n 1, 1) := by decide +kernel
theorem dX11_findFirstRows_3 : decode cX11_findFirstRows 3 = .ok (.aload_n 0, 1) := by decide +kernel
theorem dX11_findFirstRows_4 : decode cX11_findFirstRows 4 = .ok (.getfield 221, 3) := by decide +kernel
theorem dX11_findFirstRows_7 : decode cX11_findFirstRows 7 = .ok (.if_icmp .ge 16, 3) := by decide +kernel
theorem dX11_findFirstRows_10 : decode cX11_findFirstRows 10 = .ok (.aload_n 0, 1) := by decide +kernel
theorem dX11_findFirstRows_11 : decode cX11_findFirstRows 11 = .ok (.getfield 86, 3) := by decide +kernel
theorem dX11_findFirstRows_14 : decode cX11_findFirstRows 14 = .ok (.iload_n 1, 1) := by decide +kernel
theorem dX11_findFirstRows_15 : decode cX11_findFirstRows 15 = .ok (.iconst (-1), 1) := by decide +kernel
theorem dX11_findFirstRows_16 : decode cX11_findFirstRows 16 = .ok (.iastore, 1) := by decide +kernel
theorem dX11_findFirstRows_17 : decode cX11_findFirstRows 17 = .ok (.iinc 1 1, 3) := by decide +kernel
theorem dX11_findFirstRows_20 : decode cX11_findFirstRows 20 = .ok (.goto (-18), 3) := by decide +kernel
theorem dX11_findFirstRows_23 : decode cX11_findFirstRows 23 = .ok (.aload_n 0, 1) := by decide +kernel
theorem dX11_findFirstRows_24 : decode cX11_findFirstRows 24 = .ok (.getfield 227, 3) := by decide +kernel
theorem dX11_findFirstRows_27 : decode cX11_findFirstRows 27 = .ok (.iconst 1, 1) := by decide +kernel
theorem dX11_findFirstRows_28 : decode cX11_findFirstRows 28 = .ok (.isub, 1) := by decide +kernel
theorem dX11_findFirstRows_29 : decode cX11_findFirstRows 29 = .ok (.istore_n 1, 1) := by decide +kernel
theorem dX11_findFirstRows_30 : decode cX11_findFirstRows 30 = .ok (.iload_n 1, 1) := by decide +kernel
theorem dX11_findFirstRows_31 : decode cX11_findFirstRows 31 = .ok (.ifCond .lt 26, 3) := by decide +kernel
theorem dX11_findFirstRows_34 : decode cX11_findFirstRows 34 = .ok (.aload_n 0, 1) := by decide +kernel
theorem dX11_findFirstRows_35 : decode cX11_findFirstRows 35 = .ok (.getfield 86, 3) := by decide +kernel
theorem dX11_findFirstRows_38 : decode cX11_findFirstRows 38 = .ok (.aload_n 0, 1) := by decide +kernel
theorem dX11_findFirstRows_39 : decode cX11_findFirstRows 39 = .ok (.getfield 70, 3) := by decide +kernel
theorem dX11_findFirstRows_42 : decode cX11_findFirstRows 42 = .ok (.iload_n 1, 1) := by decide +kernel
theorem dX11_findFirstRows_43 : decode cX11_findFirstRows 43 = .ok (.iaload, 1) := by decide +kernel
theorem dX11_findFirstRows_44 : decode cX11_findFirstRows 44 = .ok (.aload_n 0, 1) := by decide +kernel
theorem dX11_findFirstRows_45 : decode cX11_findFirstRows 45 = .ok (.getfield 73, 3) := by decide +kernel
theorem dX11_findFirstRows_48 : decode cX11_findFirstRows 48 = .ok (.iload_n 1, 1) := by decide +kernel
theorem dX11_findFirstRows_49 : decode cX11_findFirstRows 49 = .ok (.iaload, 1) := by decide +kernel
theorem dX11_findFirstRows_50 : decode cX11_findFirstRows 50 = .ok (.iastore, 1) := by decide +kernel
theorem dX11_findFirstRows_51 : decode cX11_findFirstRows 51 = .ok (.iinc 1 (-1), 3) := by decide +kernel
theorem dX11_findFirstRows_54 : decode cX11_findFirstRows 54 = .ok (.goto (-24), 3) := by decide +kernel
theorem dX11_findFirstRows_57 : decode cX11_findFirstRows 57 = .ok (.return_, 1) := by decide +kernel
theorem dX11_wrong_0 : decode cX11_wrong 0 = .ok (.iconst 0, 1) := by decide +kernel
theorem dX11_wrong_1 : decode cX11_wrong 1 = .ok (.istore_n 3, 1) := by decide +kernel
theorem dX11_wrong_2 : decode cX11_wrong 2 = .ok (.iconst 0, 1) := by decide +kernel
theorem dX11_wrong_3 : decode cX11_wrong 3 = .ok (.istore 4, 2) := by decide +kernel
theorem dX11_wrong_5 : decode cX11_wrong 5 = .ok (.iload 4, 2) := by decide +kernel
theorem dX11_wrong_7 : decode cX11_wrong 7 = .ok (.aload_n 0, 1) := by decide +kernel
theorem dX11_wrong_8 : decode cX11_wrong 8 = .ok (.getfield 221, 3) := by decide +kernel
theorem dX11_wrong_11 : decode cX11_wrong 11 = .ok (.if_icmp .ge 119, 3) := by decide +kernel
theorem dX11_wrong_14 : decode cX11_wrong 14 = .ok (.aload_n 0, 1) := by decide +kernel
theorem dX11_wrong_15 : decode cX11_wrong 15 = .ok (.iload 4, 2) := by decide +kernel
theorem dX11_wrong_17 : decode cX11_wrong 17 = .ok (.iconst 0, 1) := by decide +kernel
theorem dX11_wrong_18 : decode cX11_wrong 18 = .ok (.invokevirtual 248, 3) := by decide +kernel
theorem dX11_wrong_21 : decode cX11_wrong 21 = .ok (.istore 5, 2) := by decide +kernel
theorem dX11_wrong_23 : decode cX11_wrong 23 = .ok (.iload 5, 2) := by decide +kernel
theorem dX11_wrong_25 : decode cX11_wrong 25 = .ok (.ldc 233, 2) := by decide +kernel
theorem dX11_wrong_27 : decode cX11_wrong 27 = .ok (.if_icmp .ne 8, 3) := by decide +kernel
theorem dX11_wrong_30 : decode cX11_wrong 30 = .ok (.ldc 233, 2) := by decide +kernel
theorem dX11_wrong_32 : decode cX11_wrong 32 = .ok (.goto 7, 3) := by decide +kernel
theorem dX11_wrong_35 : decode cX11_wrong 35 = .ok (.iload 5, 2) := by decide +kernel
theorem dX11_wrong_37 : decode cX11_wrong 37 = .ok (.iload_n 1, 1) := by decide +kernel
theorem dX11_wrong_38 : decode cX11_wrong 38 = .ok (.iadd, 1) := by decide +kernel
theorem dX11_wrong_39 : decode cX11_wrong 39 = .ok (.istore 6, 2) := by decide +kernel
theorem dX11_wrong_41 : decode cX11_wrong 41 = .ok (.aload_n 0, 1) := by decide +kernel
theorem dX11_wrong_42 : decode cX11_wrong 42 = .ok (.getfield 86, 3) := by decide +kernel
theorem dX11_wrong_45 : decode cX11_wrong 45 = .ok (.iload 4, 2) := by decide +kernel
theorem dX11_wrong_47 : decode cX11_wrong 47 = .ok (.iaload, 1) := by decide +kernel
theorem dX11_wrong_48 : decode cX11_wrong 48 = .ok (.istore 7, 2) := by decide +kernel
theorem dX11_wrong_50 : decode cX11_wrong 50 = .ok (.iload 7, 2) := by decide +kernel
theorem dX11_wrong_52 : decode cX11_wrong 52 = .ok (.iconst (-1), 1) := by decide +kernel
theorem dX11_wrong_53 : decode cX11_wrong 53 = .ok (.if_icmp .ne 17, 3) := by decide +kernel
theorem dX11_wrong_56 : decode cX11_wrong 56 = .ok (.iload 6, 2) := by decide +kernel
theorem dX11_wrong_58 : decode cX11_wrong 58 = .ok (.iload_n 2, 1) := by decide +kernel
theorem dX11_wrong_59 : decode cX11_wrong 59 = .ok (.if_icmp .le 7, 3) := by decide +kernel
theorem dX11_wrong_62 : decode cX11_wrong 62 = .ok (.iconst 1, 1) := by decide +kernel
theorem dX11_wrong_63 : decode cX11_wrong 63 = .ok (.goto 43, 3) := by decide +kernel
theorem dX11_wrong_66 : decode cX11_wrong 66 = .ok (.iconst 0, 1) := by decide +kernel
theorem dX11_wrong_67 : decode cX11_wrong 67 = .ok (.goto 39, 3) := by decide +kernel
theorem dX11_wrong_70 : decode cX11_wrong 70 = .ok (.iload 6, 2) := by decide +kernel
theorem dX11_wrong_72 : decode cX11_wrong 72 = .ok (.ldc 233, 2) := by decide +kernel
theorem dX11_wrong_74 : decode cX11_wrong 74 = .ok (.if_icmp .eq 31, 3) := by decide +kernel
theorem dX11_wrong_77 : decode cX11_wrong 77 = .ok (.iload 6, 2) := by decide +kernel
theorem dX11_wrong_79 : decode cX11_wrong 79 = .ok (.iload 7, 2) := by decide +kernel
theorem dX11_wrong_81 : decode cX11_wrong 81 = .ok (.isub, 1) := by decide +kernel
theorem dX11_wrong_82 : decode cX11_wrong 82 = .ok (.aload_n 0, 1) := by decide +kernel
theorem dX11_wrong_83 : decode cX11_wrong 83 = .ok (.getfield 255, 3) := by decide +kernel
theorem dX11_wrong_86 : decode cX11_wrong 86 = .ok (.if_icmp .gt 19, 3) := by decide +kernel
theorem dX11_wrong_89 : decode cX11_wrong 89 = .ok (.iload 7, 2) := by decide +kernel
theorem dX11_wrong_91 : decode cX11_wrong 91 = .ok (.iload 6, 2) := by decide +kernel
theorem dX11_wrong_93 : decode cX11_wrong 93 = .ok (.isub, 1) := by decide +kernel
theorem dX11_wrong_94 : decode cX11_wrong 94 = .ok (.aload_n 0, 1) := by decide +kernel
theorem dX11_wrong_95 : decode cX11_wrong 95 = .ok (.getfield 255, 3) := by decide +kernel
theorem dX11_wrong_98 : decode cX11_wrong 98 = .ok (.if_icmp .gt 7, 3) := by decide +kernel
theorem dX11_wrong_101 : decode cX11_wrong 101 = .ok (.iconst 1, 1) := by decide +kernel
theorem dX11_wrong_102 : decode cX11_wrong 102 = .ok (.goto 4, 3) := by decide +kernel
theorem dX11_wrong_105 : decode cX11_wrong 105 = .ok (.iconst 0, 1) := by decide +kernel
theorem dX11_wrong_106 : decode cX11_wrong 106 = .ok (.istore 8, 2) := by decide +kernel
theorem dX11_wrong_108 : decode cX11_wrong 108 = .ok (.iload_n 3, 1) := by decide +kernel
theorem dX11_wrong_109 : decode cX11_wrong 109 = .ok (.iload 8, 2) := by decide +kernel
theorem dX11_wrong_111 : decode cX11_wrong 111 = .ok (.ifCond .eq 7, 3) := by decide +kernel
theorem dX11_wrong_114 : decode cX11_wrong 114 = .ok (.iconst 0, 1) := by decide +kernel
theorem dX11_wrong_115 : decode cX11_wrong 115 = .ok (.goto 7, 3) := by decide +kernel
theorem dX11_wrong_118 : decode cX11_wrong 118 = .ok (.iconst 1, 1) := by decide +kernel
theorem dX11_wrong_119 : decode cX11_wrong 119 = .ok (.iload 4, 2) := by decide +kernel
theorem dX11_wrong_121 : decode cX11_wrong 121 = .ok (.ishl, 1) := by decide +kernel
theorem dX11_wrong_122 : decode cX11_wrong 122 = .ok (.ior, 1) := by decide +kernel
theorem dX11_wrong_123 : decode cX11_wrong 123 = .ok (.istore_n 3, 1) := by decide +kernel
theorem dX11_wrong_124 : decode cX11_wrong 124 = .ok (.iinc 4 1, 3) := by decide +kernel
theorem dX11_wrong_127 : decode cX11_wrong 127 = .ok (.goto (-122), 3) := by decide +kernel
theorem dX11_wrong_130 : decode cX11_wrong 130 = .ok (.iload_n 3, 1) := by decide +kernel
theorem dX11_wrong_131 : decode cX11_wrong 131 = .ok (.ireturn, 1) := by decide +kernel
theorem dX11_ones_0 : decode cX11_ones 0 = .ok (.iconst 0, 1) := by decide +kernel
theorem dX11_ones_1 : decode cX11_ones 1 = .ok (.istore_n 1, 1) := by decide +kernel
theorem dX11_ones_2 : decode cX11_ones 2 = .ok (.iconst 0, 1) := by decide +kernel
theorem dX11_ones_3 : decode cX11_ones 3 = .ok (.istore_n 2, 1) := by decide +kernel
theorem dX11_ones_4 : decode cX11_ones 4 = .ok (.iload_n 2, 1) := by decide +kernel
theorem dX11_ones_5 : decode cX11_ones 5 = .ok (.bipush 12, 2) := by decide +kernel
theorem dX11_ones_7 : decode cX11_ones 7 = .ok (.if_icmp .ge 17, 3) := by decide +kernel
theorem dX11_ones_10 : decode cX11_ones 10 = .ok (.iload_n 1, 1) := by decide +kernel
theorem dX11_ones_11 : decode cX11_ones 11 = .ok (.iload_n 0, 1) := by decide +kernel
theorem dX11_ones_12 : decode cX11_ones 12 = .ok (.iload_n 2, 1) := by decide +kernel
theorem dX11_ones_13 : decode cX11_ones 13 = .ok (.ishr, 1) := by decide +kernel
theorem dX11_ones_14 : decode cX11_ones 14 = .ok (.iconst 1, 1) := by decide +kernel
theorem dX11_ones_15 : decode cX11_ones 15 = .ok (.iand, 1) := by decide +kernel
theorem dX11_ones_16 : decode cX11_ones 16 = .ok (.iadd, 1) := by decide +kernel
theorem dX11_ones_17 : decode cX11_ones 17 = .ok (.istore_n 1, 1) := by decide +kernel
theorem dX11_ones_18 : decode cX11_ones 18 = .ok (.iinc 2 1, 3) := by decide +kernel
theorem dX11_ones_21 : decode cX11_ones 21 = .ok (.goto (-17), 3) := by decide +kernel
theorem dX11_ones_24 : decode cX11_ones 24 = .ok (.iload_n 1, 1) := by decide +kernel
theorem dX11_ones_25 : decode cX11_ones 25 = .ok (.ireturn, 1) := by decide +kernel
theorem dX11_explains_0 : decode cX11_explains 0 = .ok (.aload_n 0, 1) := by decide +kernel
theorem dX11_explains_1 : decode cX11_explains 1 = .ok (.invokevirtual 258, 3) := by decide +kernel
