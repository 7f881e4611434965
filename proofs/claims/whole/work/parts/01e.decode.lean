theorem dX8_init_0 : decode cX8_init 0 = .ok (.aload_n 0, 1) := by decide +kernel
theorem dX8_init_1 : decode cX8_init 1 = .ok (.invokespecial 3, 3) := by decide +kernel
theorem dX8_init_4 : decode cX8_init 4 = .ok (.aload_n 0, 1) := by decide +kernel
theorem dX8_init_5 : decode cX8_init 5 = .ok (.iconst 3, 1) := by decide +kernel
theorem dX8_init_6 : decode cX8_init 6 = .ok (.putfield 9, 3) := by decide +kernel
theorem dX8_init_9 : decode cX8_init 9 = .ok (.aload_n 0, 1) := by decide +kernel
theorem dX8_init_10 : decode cX8_init 10 = .ok (.iconst 5, 1) := by decide +kernel
theorem dX8_init_11 : decode cX8_init 11 = .ok (.putfield 15, 3) := by decide +kernel
theorem dX8_init_14 : decode cX8_init 14 = .ok (.aload_n 0, 1) := by decide +kernel
theorem dX8_init_15 : decode cX8_init 15 = .ok (.bipush 64, 2) := by decide +kernel
theorem dX8_init_17 : decode cX8_init 17 = .ok (.newarray .int, 2) := by decide +kernel
theorem dX8_init_19 : decode cX8_init 19 = .ok (.putfield 18, 3) := by decide +kernel
theorem dX8_init_22 : decode cX8_init 22 = .ok (.aload_n 0, 1) := by decide +kernel
theorem dX8_init_23 : decode cX8_init 23 = .ok (.bipush 8, 2) := by decide +kernel
theorem dX8_init_25 : decode cX8_init 25 = .ok (.newarray .int, 2) := by decide +kernel
theorem dX8_init_27 : decode cX8_init 27 = .ok (.putfield 22, 3) := by decide +kernel
theorem dX8_init_30 : decode cX8_init 30 = .ok (.aload_n 0, 1) := by decide +kernel
theorem dX8_init_31 : decode cX8_init 31 = .ok (.bipush 8, 2) := by decide +kernel
theorem dX8_init_33 : decode cX8_init 33 = .ok (.newarray .int, 2) := by decide +kernel
theorem dX8_init_35 : decode cX8_init 35 = .ok (.putfield 25, 3) := by decide +kernel
theorem dX8_init_38 : decode cX8_init 38 = .ok (.aload_n 0, 1) := by decide +kernel
theorem dX8_init_39 : decode cX8_init 39 = .ok (.bipush 8, 2) := by decide +kernel
theorem dX8_init_41 : decode cX8_init 41 = .ok (.newarray .int, 2) := by decide +kernel
theorem dX8_init_43 : decode cX8_init 43 = .ok (.putfield 28, 3) := by decide +kernel
theorem dX8_init_46 : decode cX8_init 46 = .ok (.aload_n 0, 1) := by decide +kernel
theorem dX8_init_47 : decode cX8_init 47 = .ok (.iconst 5, 1) := by decide +kernel
theorem dX8_init_48 : decode cX8_init 48 = .ok (.newarray .int, 2) := by decide +kernel
theorem dX8_init_50 : decode cX8_init 50 = .ok (.putfield 31, 3) := by decide +kernel
theorem dX8_init_53 : decode cX8_init 53 = .ok (.aload_n 0, 1) := by decide +kernel
theorem dX8_init_54 : decode cX8_init 54 = .ok (.iconst 5, 1) := by decide +kernel
theorem dX8_init_55 : decode cX8_init 55 = .ok (.newarray .int, 2) := by decide +kernel
theorem dX8_init_57 : decode cX8_init 57 = .ok (.putfield 34, 3) := by decide +kernel
theorem dX8_init_60 : decode cX8_init 60 = .ok (.aload_n 0, 1) := by decide +kernel
theorem dX8_init_61 : decode cX8_init 61 = .ok (.bipush 10, 2) := by decide +kernel
theorem dX8_init_63 : decode cX8_init 63 = .ok (.newarray .int, 2) := by decide +kernel
theorem dX8_init_65 : decode cX8_init 65 = .ok (.putfield 37, 3) := by decide +kernel
theorem dX8_init_68 : decode cX8_init 68 = .ok (.aload_n 0, 1) := by decide +kernel
theorem dX8_init_69 : decode cX8_init 69 = .ok (.bipush 10, 2) := by decide +kernel
theorem dX8_init_71 : decode cX8_init 71 = .ok (.newarray .int, 2) := by decide +kernel
theorem dX8_init_73 : decode cX8_init 73 = .ok (.putfield 40, 3) := by decide +kernel
theorem dX8_init_76 : decode cX8_init 76 = .ok (.aload_n 0, 1) := by decide +kernel
theorem dX8_init_77 : decode cX8_init 77 = .ok (.bipush 8, 2) := by decide +kernel
theorem dX8_init_79 : decode cX8_init 79 = .ok (.newarray .int, 2) := by decide +kernel
theorem dX8_init_81 : decode cX8_init 81 = .ok (.putfield 43, 3) := by decide +kernel
theorem dX8_init_84 : decode cX8_init 84 = .ok (.aload_n 0, 1) := by decide +kernel
theorem dX8_init_85 : decode cX8_init 85 = .ok (.bipush 8, 2) := by decide +kernel
theorem dX8_init_87 : decode cX8_init 87 = .ok (.newarray .int, 2) := by decide +kernel
theorem dX8_init_89 : decode cX8_init 89 = .ok (.putfield 46, 3) := by decide +kernel
theorem dX8_init_92 : decode cX8_init 92 = .ok (.aload_n 0, 1) := by decide +kernel
theorem dX8_init_93 : decode cX8_init 93 = .ok (.iconst 3, 1) := by decide +kernel
theorem dX8_init_94 : decode cX8_init 94 = .ok (.newarray .int, 2) := by decide +kernel
theorem dX8_init_96 : decode cX8_init 96 = .ok (.dup, 1) := by decide +kernel
theorem dX8_init_97 : decode cX8_init 97 = .ok (.iconst 0, 1) := by decide +kernel
theorem dX8_init_98 : decode cX8_init 98 = .ok (.bipush (-5), 2) := by decide +kernel
theorem dX8_init_100 : decode cX8_init 100 = .ok (.iastore, 1) := by decide +kernel
theorem dX8_init_101 : decode cX8_init 101 = .ok (.dup, 1) := by decide +kernel
theorem dX8_init_102 : decode cX8_init 102 = .ok (.iconst 1, 1) := by decide +kernel
theorem dX8_init_103 : decode cX8_init 103 = .ok (.bipush (-5), 2) := by decide +kernel
theorem dX8_init_105 : decode cX8_init 105 = .ok (.iastore, 1) := by decide +kernel
theorem dX8_init_106 : decode cX8_init 106 = .ok (.dup, 1) := by decide +kernel
theorem dX8_init_107 : decode cX8_init 107 = .ok (.iconst 2, 1) := by decide +kernel
theorem dX8_init_108 : decode cX8_init 108 = .ok (.bipush (-5), 2) := by decide +kernel
theorem dX8_init_110 : decode cX8_init 110 = .ok (.iastore, 1) := by decide +kernel
theorem dX8_init_111 : decode cX8_init 111 = .ok (.putfield 49, 3) := by decide +kernel
theorem dX8_init_114 : decode cX8_init 114 = .ok (.aload_n 0, 1) := by decide +kernel
theorem dX8_init_115 : decode cX8_init 115 = .ok (.bipush 100, 2) := by decide +kernel
theorem dX8_init_117 : decode cX8_init 117 = .ok (.newarray .int, 2) := by decide +kernel
theorem dX8_init_119 : decode cX8_init 119 = .ok (.putfield 52, 3) := by decide +kernel
theorem dX8_init_122 : decode cX8_init 122 = .ok (.aload_n 0, 1) := by decide +kernel
theorem dX8_init_123 : decode cX8_init 123 = .ok (.sipush 160, 3) := by decide +kernel
theorem dX8_init_126 : decode cX8_init 126 = .ok (.newarray .int, 2) := by decide +kernel
theorem dX8_init_128 : decode cX8_init 128 = .ok (.putfield 55, 3) := by decide +kernel
theorem dX8_init_131 : decode cX8_init 131 = .ok (.aload_n 0, 1) := by decide +kernel
theorem dX8_init_132 : decode cX8_init 132 = .ok (.bipush 8, 2) := by decide +kernel
theorem dX8_init_134 : decode cX8_init 134 = .ok (.newarray .int, 2) := by decide +kernel
theorem dX8_init_136 : decode cX8_init 136 = .ok (.putfield 58, 3) := by decide +kernel
theorem dX8_init_139 : decode cX8_init 139 = .ok (.aload_n 0, 1) := by decide +kernel
theorem dX8_init_140 : decode cX8_init 140 = .ok (.bipush 8, 2) := by decide +kernel
theorem dX8_init_142 : decode cX8_init 142 = .ok (.newarray .int, 2) := by decide +kernel
theorem dX8_init_144 : decode cX8_init 144 = .ok (.putfield 61, 3) := by decide +kernel
theorem dX8_init_147 : decode cX8_init 147 = .ok (.aload_n 0, 1) := by decide +kernel
theorem dX8_init_148 : decode cX8_init 148 = .ok (.bipush 8, 2) := by decide +kernel
theorem dX8_init_150 : decode cX8_init 150 = .ok (.newarray .int, 2) := by decide +kernel
theorem dX8_init_152 : decode cX8_init 152 = .ok (.putfield 64, 3) := by decide +kernel
theorem dX8_init_155 : decode cX8_init 155 = .ok (.aload_n 0, 1) := by decide +kernel
theorem dX8_init_156 : decode cX8_init 156 = .ok (.iconst 3, 1) := by decide +kernel
theorem dX8_init_157 : decode cX8_init 157 = .ok (.newarray .int, 2) := by decide +kernel
theorem dX8_init_159 : decode cX8_init 159 = .ok (.putfield 67, 3) := by decide +kernel
theorem dX8_init_162 : decode cX8_init 162 = .ok (.aload_n 0, 1) := by decide +kernel
theorem dX8_init_163 : decode cX8_init 163 = .ok (.sipush 256, 3) := by decide +kernel
theorem dX8_init_166 : decode cX8_init 166 = .ok (.newarray .int, 2) := by decide +kernel
theorem dX8_init_168 : decode cX8_init 168 = .ok (.putfield 70, 3) := by decide +kernel
theorem dX8_init_171 : decode cX8_init 171 = .ok (.aload_n 0, 1) := by decide +kernel
theorem dX8_init_172 : decode cX8_init 172 = .ok (.bipush 6, 2) := by decide +kernel
theorem dX8_init_174 : decode cX8_init 174 = .ok (.bipush 60, 2) := by decide +kernel
theorem dX8_init_176 : decode cX8_init 176 = .ok (.multianewarray 73 2, 4) := by decide +kernel
theorem dX8_init_180 : decode cX8_init 180 = .ok (.putfield 75, 3) := by decide +kernel
theorem dX8_init_183 : decode cX8_init 183 = .ok (.aload_n 0, 1) := by decide +kernel
theorem dX8_init_184 : decode cX8_init 184 = .ok (.bipush 6, 2) := by decide +kernel
theorem dX8_init_186 : decode cX8_init 186 = .ok (.newarray .int, 2) := by decide +kernel
theorem dX8_init_188 : decode cX8_init 188 = .ok (.dup, 1) := by decide +kernel
theorem dX8_init_189 : decode cX8_init 189 = .ok (.iconst 0, 1) := by decide +kernel
theorem dX8_init_190 : decode cX8_init 190 = .ok (.iconst (-1), 1) := by decide +kernel
theorem dX8_init_191 : decode cX8_init 191 = .ok (.iastore, 1) := by decide +kernel
theorem dX8_init_192 : decode cX8_init 192 = .ok (.dup, 1) := by decide +kernel
theorem dX8_init_193 : decode cX8_init 193 = .ok (.iconst 1, 1) := by decide +kernel
theorem dX8_init_194 : decode cX8_init 194 = .ok (.iconst (-1), 1) := by decide +kernel
theorem dX8_init_195 : decode cX8_init 195 = .ok (.iastore, 1) := by decide +kernel
theorem dX8_init_196 : decode cX8_init 196 = .ok (.dup, 1) := by decide +kernel
theorem dX8_init_197 : decode cX8_init 197 = .ok (.iconst 2, 1) := by decide +kernel
theorem dX8_init_198 : decode cX8_init 198 = .ok (.iconst (-1), 1) := by decide +kernel
theorem dX8_init_199 : decode cX8_init 199 = .ok (.iastore, 1) := by decide +kernel
theorem dX8_init_200 : decode cX8_init 200 = .ok (.dup, 1) := by decide +kernel
theorem dX8_init_201 : decode cX8_init 201 = .ok (.iconst 3, 1) := by decide +kernel
theorem dX8_init_202 : decode cX8_init 202 = .ok (.iconst (-1), 1) := by decide +kernel
theorem dX8_init_203 : decode cX8_init 203 = .ok (.iastore, 1) := by decide +kernel
theorem dX8_init_204 : decode cX8_init 204 = .ok (.dup, 1) := by decide +kernel
theorem dX8_init_205 : decode cX8_init 205 = .ok (.iconst 4, 1) := by decide +kernel
theorem dX8_init_206 : decode cX8_init 206 = .ok (.iconst (-1), 1) := by decide +kernel
theorem dX8_init_207 : decode cX8_init 207 = .ok (.iastore, 1) := by decide +kernel
theorem dX8_init_208 : decode cX8_init 208 = .ok (.dup, 1) := by decide +kernel
theorem dX8_init_209 : decode cX8_init 209 = .ok (.iconst 5, 1) := by decide +kernel
theorem dX8_init_210 : decode cX8_init 210 = .ok (.iconst (-1), 1) := by decide +kernel
theorem dX8_init_211 : decode cX8_init 211 = .ok (.iastore, 1) := by decide +kernel
theorem dX8_init_212 : decode cX8_init 212 = .ok (.putfield 78, 3) := by decide +kernel
theorem dX8_init_215 : decode cX8_init 215 = .ok (.aload_n 0, 1) := by decide +kernel
theorem dX8_init_216 : decode cX8_init 216 = .ok (.bipush 6, 2) := by decide +kernel
theorem dX8_init_218 : decode cX8_init 218 = .ok (.newarray .int, 2) := by decide +kernel
theorem dX8_init_220 : decode cX8_init 220 = .ok (.putfield 81, 3) := by decide +kernel
theorem dX8_init_223 : decode cX8_init 223 = .ok (.aload_n 0, 1) := by decide +kernel
theorem dX8_init_224 : decode cX8_init 224 = .ok (.bipush 60, 2) := by decide +kernel
theorem dX8_init_226 : decode cX8_init 226 = .ok (.newarray .long, 2) := by decide +kernel
theorem dX8_init_228 : decode cX8_init 228 = .ok (.putfield 84, 3) := by decide +kernel
theorem dX8_init_231 : decode cX8_init 231 = .ok (.aload_n 0, 1) := by decide +kernel
theorem dX8_init_232 : decode cX8_init 232 = .ok (.invokevirtual 88, 3) := by decide +kernel
theorem dX8_init_235 : decode cX8_init 235 = .ok (.pop, 1) := by decide +kernel
theorem dX8_init_236 : decode cX8_init 236 = .ok (.return_, 1) := by decide +kernel
theorem dX8_in_0 : decode cX8_in 0 = .ok (.lload_n 0, 1) := by decide +kernel
theorem dX8_in_1 : decode cX8_in 1 = .ok (.lload_n 2, 1) := by decide +kernel
theorem dX8_in_2 : decode cX8_in 2 = .ok (.lcmp, 1) := by decide +kernel
theorem dX8_in_3 : decode cX8_in 3 = .ok (.ifCond .lt 14, 3) := by decide +kernel
theorem dX8_in_6 : decode cX8_in 6 = .ok (.lload_n 0, 1) := by decide +kernel
theorem dX8_in_7 : decode cX8_in 7 = .ok (.lload 4, 2) := by decide +kernel
theorem dX8_in_9 : decode cX8_in 9 = .ok (.lcmp, 1) := by decide +kernel
theorem dX8_in_10 : decode cX8_in 10 = .ok (.ifCond .gt 7, 3) := by decide +kernel
theorem dX8_in_13 : decode cX8_in 13 = .ok (.iconst 1, 1) := by decide +kernel
theorem dX8_in_14 : decode cX8_in 14 = .ok (.goto 4, 3) := by decide +kernel
theorem dX8_in_17 : decode cX8_in 17 = .ok (.iconst 0, 1) := by decide +kernel
theorem dX8_in_18 : decode cX8_in 18 = .ok (.ireturn, 1) := by decide +kernel
theorem dX8_isOne_0 : decode cX8_isOne 0 = .ok (.iload_n 1, 1) := by decide +kernel
theorem dX8_isOne_1 : decode cX8_isOne 1 = .ok (.i2l, 1) := by decide +kernel
theorem dX8_isOne_2 : decode cX8_isOne 2 = .ok (.lconst 0, 1) := by decide +kernel
theorem dX8_isOne_3 : decode cX8_isOne 3 = .ok (.aload_n 0, 1) := by decide +kernel
theorem dX8_isOne_4 : decode cX8_isOne 4 = .ok (.getfield 9, 3) := by decide +kernel
theorem dX8_isOne_7 : decode cX8_isOne 7 = .ok (.iconst 1, 1) := by decide +kernel
theorem dX8_isOne_8 : decode cX8_isOne 8 = .ok (.isub, 1) := by decide +kernel
theorem dX8_isOne_9 : decode cX8_isOne 9 = .ok (.i2l, 1) := by decide +kernel
theorem dX8_isOne_10 : decode cX8_isOne 10 = .ok (.invokestatic 92, 3) := by decide +kernel
theorem dX8_isOne_13 : decode cX8_isOne 13 = .ok (.ireturn, 1) := by decide +kernel
theorem dX8_isPair_0 : decode cX8_isPair 0 = .ok (.aload_n 0, 1) := by decide +kernel
theorem dX8_isPair_1 : decode cX8_isPair 1 = .ok (.iload_n 1, 1) := by decide +kernel
theorem dX8_isPair_2 : decode cX8_isPair 2 = .ok (.invokevirtual 96, 3) := by decide +kernel
theorem dX8_isPair_5 : decode cX8_isPair 5 = .ok (.ifCond .eq 15, 3) := by decide +kernel
theorem dX8_isPair_8 : decode cX8_isPair 8 = .ok (.aload_n 0, 1) := by decide +kernel
theorem dX8_isPair_9 : decode cX8_isPair 9 = .ok (.iload_n 2, 1) := by decide +kernel
theorem dX8_isPair_10 : decode cX8_isPair 10 = .ok (.invokevirtual 96, 3) := by decide +kernel
theorem dX8_isPair_13 : decode cX8_isPair 13 = .ok (.ifCond .eq 7, 3) := by decide +kernel
theorem dX8_isPair_16 : decode cX8_isPair 16 = .ok (.iconst 1, 1) := by decide +kernel
theorem dX8_isPair_17 : decode cX8_isPair 17 = .ok (.goto 4, 3) := by decide +kernel
theorem dX8_isPair_20 : decode cX8_isPair 20 = .ok (.iconst 0, 1) := by decide +kernel
theorem dX8_isPair_21 : decode cX8_isPair 21 = .ok (.ireturn, 1) := by decide +kernel
theorem dX8_empties_0 : decode cX8_empties 0 = .ok (.iconst 0, 1) := by decide +kernel
theorem dX8_empties_1 : decode cX8_empties 1 = .ok (.istore_n 1, 1) := by decide +kernel
theorem dX8_empties_2 : decode cX8_empties 2 = .ok (.iconst 0, 1) := by decide +kernel
theorem dX8_empties_3 : decode cX8_empties 3 = .ok (.istore_n 2, 1) := by decide +kernel
theorem dX8_empties_4 : decode cX8_empties 4 = .ok (.iload_n 2, 1) := by decide +kernel
theorem dX8_empties_5 : decode cX8_empties 5 = .ok (.bipush 8, 2) := by decide +kernel
theorem dX8_empties_7 : decode cX8_empties 7 = .ok (.if_icmp .ge 48, 3) := by decide +kernel
theorem dX8_empties_10 : decode cX8_empties 10 = .ok (.iload_n 1, 1) := by decide +kernel
theorem dX8_empties_11 : decode cX8_empties 11 = .ok (.aload_n 0, 1) := by decide +kernel
theorem dX8_empties_12 : decode cX8_empties 12 = .ok (.getfield 22, 3) := by decide +kernel
theorem dX8_empties_15 : decode cX8_empties 15 = .ok (.iload_n 2, 1) := by decide +kernel
theorem dX8_empties_16 : decode cX8_empties 16 = .ok (.iaload, 1) := by decide +kernel
theorem dX8_empties_17 : decode cX8_empties 17 = .ok (.ifCond .lt 15, 3) := by decide +kernel
theorem dX8_empties_20 : decode cX8_empties 20 = .ok (.iload_n 2, 1) := by decide +kernel
theorem dX8_empties_21 : decode cX8_empties 21 = .ok (.aload_n 0, 1) := by decide +kernel
theorem dX8_empties_22 : decode cX8_empties 22 = .ok (.getfield 9, 3) := by decide +kernel
theorem dX8_empties_25 : decode cX8_empties 25 = .ok (.if_icmp .ge 7, 3) := by decide +kernel
theorem dX8_empties_28 : decode cX8_empties 28 = .ok (.iconst 1, 1) := by decide +kernel
theorem dX8_empties_29 : decode cX8_empties 29 = .ok (.goto 4, 3) := by decide +kernel
theorem dX8_empties_32 : decode cX8_empties 32 = .ok (.iconst 0, 1) := by decide +kernel
theorem dX8_empties_33 : decode cX8_empties 33 = .ok (.iadd, 1) := by decide +kernel
theorem dX8_empties_34 : decode cX8_empties 34 = .ok (.istore_n 1, 1) := by decide +kernel
theorem dX8_empties_35 : decode cX8_empties 35 = .ok (.aload_n 0, 1) := by decide +kernel
theorem dX8_empties_36 : decode cX8_empties 36 = .ok (.getfield 22, 3) := by decide +kernel
theorem dX8_empties_39 : decode cX8_empties 39 = .ok (.iload_n 2, 1) := by decide +kernel
theorem dX8_empties_40 : decode cX8_empties 40 = .ok (.iconst (-1), 1) := by decide +kernel
theorem dX8_empties_41 : decode cX8_empties 41 = .ok (.iastore, 1) := by decide +kernel
theorem dX8_empties_42 : decode cX8_empties 42 = .ok (.aload_n 0, 1) := by decide +kernel
theorem dX8_empties_43 : decode cX8_empties 43 = .ok (.getfield 25, 3) := by decide +kernel
theorem dX8_empties_46 : decode cX8_empties 46 = .ok (.iload_n 2, 1) := by decide +kernel
theorem dX8_empties_47 : decode cX8_empties 47 = .ok (.iconst (-1), 1) := by decide +kernel
theorem dX8_empties_48 : decode cX8_empties 48 = .ok (.iastore, 1) := by decide +kernel
theorem dX8_empties_49 : decode cX8_empties 49 = .ok (.iinc 2 1, 3) := by decide +kernel
theorem dX8_empties_52 : decode cX8_empties 52 = .ok (.goto (-48), 3) := by decide +kernel
theorem dX8_empties_55 : decode cX8_empties 55 = .ok (.iload_n 1, 1) := by decide +kernel
theorem dX8_empties_56 : decode cX8_empties 56 = .ok (.ireturn, 1) := by decide +kernel
theorem dX8_free_0 : decode cX8_free 0 = .ok (.iconst 0, 1) := by decide +kernel
theorem dX8_free_1 : decode cX8_free 1 = .ok (.istore_n 1, 1) := by decide +kernel
theorem dX8_free_2 : decode cX8_free 2 = .ok (.iload_n 1, 1) := by decide +kernel
theorem dX8_free_3 : decode cX8_free 3 = .ok (.bipush 8, 2) := by decide +kernel
theorem dX8_free_5 : decode cX8_free 5 = .ok (.if_icmp .ge 16, 3) := by decide +kernel
theorem dX8_free_8 : decode cX8_free 8 = .ok (.aload_n 0, 1) := by decide +kernel
theorem dX8_free_9 : decode cX8_free 9 = .ok (.getfield 28, 3) := by decide +kernel
theorem dX8_free_12 : decode cX8_free 12 = .ok (.iload_n 1, 1) := by decide +kernel
theorem dX8_free_13 : decode cX8_free 13 = .ok (.iconst 0, 1) := by decide +kernel
theorem dX8_free_14 : decode cX8_free 14 = .ok (.iastore, 1) := by decide +kernel
theorem dX8_free_15 : decode cX8_free 15 = .ok (.iinc 1 1, 3) := by decide +kernel
theorem dX8_free_18 : decode cX8_free 18 = .ok (.goto (-16), 3) := by decide +kernel
theorem dX8_free_21 : decode cX8_free 21 = .ok (.return_, 1) := by decide +kernel
theorem dX8_passes_0 : decode cX8_passes 0 = .ok (.aload_n 0, 1) := by decide +kernel
theorem dX8_passes_1 : decode cX8_passes 1 = .ok (.getfield 100, 3) := by decide +kernel
theorem dX8_passes_4 : decode cX8_passes 4 = .ok (.ifCond .eq 7, 3) := by decide +kernel
theorem dX8_passes_7 : decode cX8_passes 7 = .ok (.iload_n 1, 1) := by decide +kernel
theorem dX8_passes_8 : decode cX8_passes 8 = .ok (.goto 12, 3) := by decide +kernel
theorem dX8_passes_11 : decode cX8_passes 11 = .ok (.aload_n 0, 1) := by decide +kernel
theorem dX8_passes_12 : decode cX8_passes 12 = .ok (.getfield 55, 3) := by decide +kernel
theorem dX8_passes_15 : decode cX8_passes 15 = .ok (.aload_n 0, 1) := by decide +kernel
theorem dX8_passes_16 : decode cX8_passes 16 = .ok (.getfield 104, 3) := by decide +kernel
theorem dX8_passes_19 : decode cX8_passes 19 = .ok (.iaload, 1) := by decide +kernel
theorem dX8_passes_20 : decode cX8_passes 20 = .ok (.istore_n 2, 1) := by decide +kernel
theorem dX8_passes_21 : decode cX8_passes 21 = .ok (.aload_n 0, 1) := by decide +kernel
theorem dX8_passes_22 : decode cX8_passes 22 = .ok (.getfield 55, 3) := by decide +kernel
theorem dX8_passes_25 : decode cX8_passes 25 = .ok (.aload_n 0, 1) := by decide +kernel
theorem dX8_passes_26 : decode cX8_passes 26 = .ok (.getfield 104, 3) := by decide +kernel
theorem dX8_passes_29 : decode cX8_passes 29 = .ok (.iload_n 2, 1) := by decide +kernel
theorem dX8_passes_30 : decode cX8_passes 30 = .ok (.iastore, 1) := by decide +kernel
theorem dX8_passes_31 : decode cX8_passes 31 = .ok (.aload_n 0, 1) := by decide +kernel
theorem dX8_passes_32 : decode cX8_passes 32 = .ok (.dup, 1) := by decide +kernel
theorem dX8_passes_33 : decode cX8_passes 33 = .ok (.getfield 104, 3) := by decide +kernel
theorem dX8_passes_36 : decode cX8_passes 36 = .ok (.iconst 1, 1) := by decide +kernel
theorem dX8_passes_37 : decode cX8_passes 37 = .ok (.iadd, 1) := by decide +kernel
theorem dX8_passes_38 : decode cX8_passes 38 = .ok (.putfield 104, 3) := by decide +kernel
theorem dX8_passes_41 : decode cX8_passes 41 = .ok (.iload_n 2, 1) := by decide +kernel
theorem dX8_passes_42 : decode cX8_passes 42 = .ok (.ireturn, 1) := by decide +kernel
theorem dX8_passesRow_0 : decode cX8_passesRow 0 = .ok (.iconst 0, 1) := by decide +kernel
theorem dX8_passesRow_1 : decode cX8_passesRow 1 = .ok (.istore_n 2, 1) := by decide +kernel
theorem dX8_passesRow_2 : decode cX8_passesRow 2 = .ok (.iload_n 2, 1) := by decide +kernel
theorem dX8_passesRow_3 : decode cX8_passesRow 3 = .ok (.aload_n 1, 1) := by decide +kernel
theorem dX8_passesRow_4 : decode cX8_passesRow 4 = .ok (.arraylength, 1) := by decide +kernel
theorem dX8_passesRow_5 : decode cX8_passesRow 5 = .ok (.if_icmp .ge 19, 3) := by decide +kernel
theorem dX8_passesRow_8 : decode cX8_passesRow 8 = .ok (.aload_n 1, 1) := by decide +kernel
theorem dX8_passesRow_9 : decode cX8_passesRow 9 = .ok (.iload_n 2, 1) := by decide +kernel
theorem dX8_passesRow_10 : decode cX8_passesRow 10 = .ok (.aload_n 0, 1) := by decide +kernel
theorem dX8_passesRow_11 : decode cX8_passesRow 11 = .ok (.aload_n 1, 1) := by decide +kernel
theorem dX8_passesRow_12 : decode cX8_passesRow 12 = .ok (.iload_n 2, 1) := by decide +kernel
theorem dX8_passesRow_13 : decode cX8_passesRow 13 = .ok (.iaload, 1) := by decide +kernel
theorem dX8_passesRow_14 : decode cX8_passesRow 14 = .ok (.invokevirtual 107, 3) := by decide +kernel
theorem dX8_passesRow_17 : decode cX8_passesRow 17 = .ok (.iastore, 1) := by decide +kernel
theorem dX8_passesRow_18 : decode cX8_passesRow 18 = .ok (.iinc 2 1, 3) := by decide +kernel
theorem dX8_passesRow_21 : decode cX8_passesRow 21 = .ok (.goto (-19), 3) := by decide +kernel
theorem dX8_passesRow_24 : decode cX8_passesRow 24 = .ok (.return_, 1) := by decide +kernel
theorem dX8_passesAll_0 : decode cX8_passesAll 0 = .ok (.aload_n 0, 1) := by decide +kernel
theorem dX8_passesAll_1 : decode cX8_passesAll 1 = .ok (.iload_n 1, 1) := by decide +kernel
theorem dX8_passesAll_2 : decode cX8_passesAll 2 = .ok (.putfield 100, 3) := by decide +kernel
theorem dX8_passesAll_5 : decode cX8_passesAll 5 = .ok (.aload_n 0, 1) := by decide +kernel
theorem dX8_passesAll_6 : decode cX8_passesAll 6 = .ok (.iconst 0, 1) := by decide +kernel
theorem dX8_passesAll_7 : decode cX8_passesAll 7 = .ok (.putfield 104, 3) := by decide +kernel
theorem dX8_passesAll_10 : decode cX8_passesAll 10 = .ok (.aload_n 0, 1) := by decide +kernel
theorem dX8_passesAll_11 : decode cX8_passesAll 11 = .ok (.aload_n 0, 1) := by decide +kernel
theorem dX8_passesAll_12 : decode cX8_passesAll 12 = .ok (.aload_n 0, 1) := by decide +kernel
theorem dX8_passesAll_13 : decode cX8_passesAll 13 = .ok (.getfield 9, 3) := by decide +kernel
theorem dX8_passesAll_16 : decode cX8_passesAll 16 = .ok (.invokevirtual 107, 3) := by decide +kernel
theorem dX8_passesAll_19 : decode cX8_passesAll 19 = .ok (.putfield 9, 3) := by decide +kernel
theorem dX8_passesAll_22 : decode cX8_passesAll 22 = .ok (.aload_n 0, 1) := by decide +kernel
theorem dX8_passesAll_23 : decode cX8_passesAll 23 = .ok (.aload_n 0, 1) := by decide +kernel
theorem dX8_passesAll_24 : decode cX8_passesAll 24 = .ok (.aload_n 0, 1) := by decide +kernel
theorem dX8_passesAll_25 : decode cX8_passesAll 25 = .ok (.getfield 15, 3) := by decide +kernel
theorem dX8_passesAll_28 : decode cX8_passesAll 28 = .ok (.invokevirtual 107, 3) := by decide +kernel
theorem dX8_passesAll_31 : decode cX8_passesAll 31 = .ok (.putfield 15, 3) := by decide +kernel
theorem dX8_passesAll_34 : decode cX8_passesAll 34 = .ok (.aload_n 0, 1) := by decide +kernel
theorem dX8_passesAll_35 : decode cX8_passesAll 35 = .ok (.aload_n 0, 1) := by decide +kernel
theorem dX8_passesAll_36 : decode cX8_passesAll 36 = .ok (.aload_n 0, 1) := by decide +kernel
theorem dX8_passesAll_37 : decode cX8_passesAll 37 = .ok (.getfield 111, 3) := by decide +kernel
theorem dX8_passesAll_40 : decode cX8_passesAll 40 = .ok (.invokevirtual 107, 3) := by decide +kernel
theorem dX8_passesAll_43 : decode cX8_passesAll 43 = .ok (.putfield 111, 3) := by decide +kernel
theorem dX8_passesAll_46 : decode cX8_passesAll 46 = .ok (.aload_n 0, 1) := by decide +kernel
theorem dX8_passesAll_47 : decode cX8_passesAll 47 = .ok (.aload_n 0, 1) := by decide +kernel
theorem dX8_passesAll_48 : decode cX8_passesAll 48 = .ok (.aload_n 0, 1) := by decide +kernel
theorem dX8_passesAll_49 : decode cX8_passesAll 49 = .ok (.getfield 114, 3) := by decide +kernel
theorem dX8_passesAll_52 : decode cX8_passesAll 52 = .ok (.invokevirtual 107, 3) := by decide +kernel
theorem dX8_passesAll_55 : decode cX8_passesAll 55 = .ok (.putfield 114, 3) := by decide +kernel
theorem dX8_passesAll_58 : decode cX8_passesAll 58 = .ok (.aload_n 0, 1) := by decide +kernel
theorem dX8_passesAll_59 : decode cX8_passesAll 59 = .ok (.aload_n 0, 1) := by decide +kernel
theorem dX8_passesAll_60 : decode cX8_passesAll 60 = .ok (.aload_n 0, 1) := by decide +kernel
theorem dX8_passesAll_61 : decode cX8_passesAll 61 = .ok (.getfield 117, 3) := by decide +kernel
theorem dX8_passesAll_64 : decode cX8_passesAll 64 = .ok (.invokevirtual 107, 3) := by decide +kernel
theorem dX8_passesAll_67 : decode cX8_passesAll 67 = .ok (.putfield 117, 3) := by decide +kernel
theorem dX8_passesAll_70 : decode cX8_passesAll 70 = .ok (.aload_n 0, 1) := by decide +kernel
theorem dX8_passesAll_71 : decode cX8_passesAll 71 = .ok (.aload_n 0, 1) := by decide +kernel
theorem dX8_passesAll_72 : decode cX8_passesAll 72 = .ok (.getfield 18, 3) := by decide +kernel
theorem dX8_passesAll_75 : decode cX8_passesAll 75 = .ok (.invokevirtual 120, 3) := by decide +kernel
theorem dX8_passesAll_78 : decode cX8_passesAll 78 = .ok (.aload_n 0, 1) := by decide +kernel
theorem dX8_passesAll_79 : decode cX8_passesAll 79 = .ok (.aload_n 0, 1) := by decide +kernel
theorem dX8_passesAll_80 : decode cX8_passesAll 80 = .ok (.getfield 22, 3) := by decide +kernel
theorem dX8_passesAll_83 : decode cX8_passesAll 83 = .ok (.invokevirtual 120, 3) := by decide +kernel
theorem dX8_passesAll_86 : decode cX8_passesAll 86 = .ok (.aload_n 0, 1) := by decide +kernel
theorem dX8_passesAll_87 : decode cX8_passesAll 87 = .ok (.aload_n 0, 1) := by decide +kernel
theorem dX8_passesAll_88 : decode cX8_passesAll 88 = .ok (.getfield 25, 3) := by decide +kernel
theorem dX8_passesAll_91 : decode cX8_passesAll 91 = .ok (.invokevirtual 120, 3) := by decide +kernel
theorem dX8_passesAll_94 : decode cX8_passesAll 94 = .ok (.aload_n 0, 1) := by decide +kernel
theorem dX8_passesAll_95 : decode cX8_passesAll 95 = .ok (.aload_n 0, 1) := by decide +kernel
theorem dX8_passesAll_96 : decode cX8_passesAll 96 = .ok (.getfield 28, 3) := by decide +kernel
theorem dX8_passesAll_99 : decode cX8_passesAll 99 = .ok (.invokevirtual 120, 3) := by decide +kernel
theorem dX8_passesAll_102 : decode cX8_passesAll 102 = .ok (.aload_n 0, 1) := by decide +kernel
theorem dX8_passesAll_103 : decode cX8_passesAll 103 = .ok (.aload_n 0, 1) := by decide +kernel
theorem dX8_passesAll_104 : decode cX8_passesAll 104 = .ok (.getfield 31, 3) := by decide +kernel
theorem dX8_passesAll_107 : decode cX8_passesAll 107 = .ok (.invokevirtual 120, 3) := by decide +kernel
theorem dX8_passesAll_110 : decode cX8_passesAll 110 = .ok (.aload_n 0, 1) := by decide +kernel
theorem dX8_passesAll_111 : decode cX8_passesAll 111 = .ok (.aload_n 0, 1) := by decide +kernel
theorem dX8_passesAll_112 : decode cX8_passesAll 112 = .ok (.getfield 34, 3) := by decide +kernel
theorem dX8_passesAll_115 : decode cX8_passesAll 115 = .ok (.invokevirtual 120, 3) := by decide +kernel
theorem dX8_passesAll_118 : decode cX8_passesAll 118 = .ok (.aload_n 0, 1) := by decide +kernel
theorem dX8_passesAll_119 : decode cX8_passesAll 119 = .ok (.aload_n 0, 1) := by decide +kernel
theorem dX8_passesAll_120 : decode cX8_passesAll 120 = .ok (.getfield 37, 3) := by decide +kernel
theorem dX8_passesAll_123 : decode cX8_passesAll 123 = .ok (.invokevirtual 120, 3) := by decide +kernel
theorem dX8_passesAll_126 : decode cX8_passesAll 126 = .ok (.aload_n 0, 1) := by decide +kernel
theorem dX8_passesAll_127 : decode cX8_passesAll 127 = .ok (.aload_n 0, 1) := by decide +kernel
theorem dX8_passesAll_128 : decode cX8_passesAll 128 = .ok (.getfield 40, 3) := by decide +kernel
theorem dX8_passesAll_131 : decode cX8_passesAll 131 = .ok (.invokevirtual 120, 3) := by decide +kernel
theorem dX8_passesAll_134 : decode cX8_passesAll 134 = .ok (.aload_n 0, 1) := by decide +kernel
theorem dX8_passesAll_135 : decode cX8_passesAll 135 = .ok (.aload_n 0, 1) := by decide +kernel
theorem dX8_passesAll_136 : decode cX8_passesAll 136 = .ok (.getfield 43, 3) := by decide +kernel
theorem dX8_passesAll_139 : decode cX8_passesAll 139 = .ok (.invokevirtual 120, 3) := by decide +kernel
theorem dX8_passesAll_142 : decode cX8_passesAll 142 = .ok (.aload_n 0, 1) := by decide +kernel
theorem dX8_passesAll_143 : decode cX8_passesAll 143 = .ok (.aload_n 0, 1) := by decide +kernel
theorem dX8_passesAll_144 : decode cX8_passesAll 144 = .ok (.getfield 46, 3) := by decide +kernel
theorem dX8_passesAll_147 : decode cX8_passesAll 147 = .ok (.invokevirtual 120, 3) := by decide +kernel
theorem dX8_passesAll_150 : decode cX8_passesAll 150 = .ok (.aload_n 0, 1) := by decide +kernel
theorem dX8_passesAll_151 : decode cX8_passesAll 151 = .ok (.getfield 9, 3) := by decide +kernel
theorem dX8_passesAll_154 : decode cX8_passesAll 154 = .ok (.ireturn, 1) := by decide +kernel
theorem dX8_image_0 : decode cX8_image 0 = .ok (.aload_n 0, 1) := by decide +kernel
theorem dX8_image_1 : decode cX8_image 1 = .ok (.iconst 1, 1) := by decide +kernel
theorem dX8_image_2 : decode cX8_image 2 = .ok (.putfield 124, 3) := by decide +kernel
theorem dX8_image_5 : decode cX8_image 5 = .ok (.aload_n 0, 1) := by decide +kernel
theorem dX8_image_6 : decode cX8_image 6 = .ok (.iconst 1, 1) := by decide +kernel
theorem dX8_image_7 : decode cX8_image 7 = .ok (.invokevirtual 127, 3) := by decide +kernel
theorem dX8_image_10 : decode cX8_image 10 = .ok (.ireturn, 1) := by decide +kernel
theorem dX8_undo_0 : decode cX8_undo 0 = .ok (.aload_n 0, 1) := by decide +kernel
theorem dX8_undo_1 : decode cX8_undo 1 = .ok (.getfield 124, 3) := by decide +kernel
theorem dX8_undo_4 : decode cX8_undo 4 = .ok (.ifCond .eq 11, 3) := by decide +kernel
theorem dX8_undo_7 : decode cX8_undo 7 = .ok (.aload_n 0, 1) := by decide +kernel
theorem dX8_undo_8 : decode cX8_undo 8 = .ok (.iconst 0, 1) := by decide +kernel
theorem dX8_undo_9 : decode cX8_undo 9 = .ok (.invokevirtual 127, 3) := by decide +kernel
theorem dX8_undo_12 : decode cX8_undo 12 = .ok (.goto 5, 3) := by decide +kernel
theorem dX8_undo_15 : decode cX8_undo 15 = .ok (.bipush (-3), 2) := by decide +kernel
theorem dX8_undo_17 : decode cX8_undo 17 = .ok (.ireturn, 1) := by decide +kernel
theorem dX8_lays_0 : decode cX8_lays 0 = .ok (.iconst 0, 1) := by decide +kernel
theorem dX8_lays_1 : decode cX8_lays 1 = .ok (.istore_n 2, 1) := by decide +kernel
theorem dX8_lays_2 : decode cX8_lays 2 = .ok (.iload_n 2, 1) := by decide +kernel
theorem dX8_lays_3 : decode cX8_lays 3 = .ok (.aload_n 0, 1) := by decide +kernel
theorem dX8_lays_4 : decode cX8_lays 4 = .ok (.arraylength, 1) := by decide +kernel
theorem dX8_lays_5 : decode cX8_lays 5 = .ok (.if_icmp .ge 15, 3) := by decide +kernel
theorem dX8_lays_8 : decode cX8_lays 8 = .ok (.aload_n 1, 1) := by decide +kernel
theorem dX8_lays_9 : decode cX8_lays 9 = .ok (.iload_n 2, 1) := by decide +kernel
theorem dX8_lays_10 : decode cX8_lays 10 = .ok (.aload_n 0, 1) := by decide +kernel
theorem dX8_lays_11 : decode cX8_lays 11 = .ok (.iload_n 2, 1) := by decide +kernel
theorem dX8_lays_12 : decode cX8_lays 12 = .ok (.iaload, 1) := by decide +kernel
theorem dX8_lays_13 : decode cX8_lays 13 = .ok (.iastore, 1) := by decide +kernel
theorem dX8_lays_14 : decode cX8_lays 14 = .ok (.iinc 2 1, 3) := by decide +kernel
theorem dX8_lays_17 : decode cX8_lays 17 = .ok (.goto (-15), 3) := by decide +kernel
theorem dX8_lays_20 : decode cX8_lays 20 = .ok (.return_, 1) := by decide +kernel
theorem dX8_minds_0 : decode cX8_minds 0 = .ok (.aload_n 0, 1) := by decide +kernel
theorem dX8_minds_1 : decode cX8_minds 1 = .ok (.getfield 22, 3) := by decide +kernel
theorem dX8_minds_4 : decode cX8_minds 4 = .ok (.aload_n 0, 1) := by decide +kernel
theorem dX8_minds_5 : decode cX8_minds 5 = .ok (.getfield 58, 3) := by decide +kernel
theorem dX8_minds_8 : decode cX8_minds 8 = .ok (.invokestatic 131, 3) := by decide +kernel
theorem dX8_minds_11 : decode cX8_minds 11 = .ok (.aload_n 0, 1) := by decide +kernel
theorem dX8_minds_12 : decode cX8_minds 12 = .ok (.getfield 25, 3) := by decide +kernel
theorem dX8_minds_15 : decode cX8_minds 15 = .ok (.aload_n 0, 1) := by decide +kernel
theorem dX8_minds_16 : decode cX8_minds 16 = .ok (.getfield 61, 3) := by decide +kernel
theorem dX8_minds_19 : decode cX8_minds 19 = .ok (.invokestatic 131, 3) := by decide +kernel
theorem dX8_minds_22 : decode cX8_minds 22 = .ok (.aload_n 0, 1) := by decide +kernel
theorem dX8_minds_23 : decode cX8_minds 23 = .ok (.getfield 28, 3) := by decide +kernel
theorem dX8_minds_26 : decode cX8_minds 26 = .ok (.aload_n 0, 1) := by decide +kernel
theorem dX8_minds_27 : decode cX8_minds 27 = .ok (.getfield 64, 3) := by decide +kernel
theorem dX8_minds_30 : decode cX8_minds 30 = .ok (.invokestatic 131, 3) := by decide +kernel
theorem dX8_minds_33 : decode cX8_minds 33 = .ok (.aload_n 0, 1) := by decide +kernel
theorem dX8_minds_34 : decode cX8_minds 34 = .ok (.getfield 49, 3) := by decide +kernel
theorem dX8_minds_37 : decode cX8_minds 37 = .ok (.aload_n 0, 1) := by decide +kernel
theorem dX8_minds_38 : decode cX8_minds 38 = .ok (.getfield 67, 3) := by decide +kernel
theorem dX8_minds_41 : decode cX8_minds 41 = .ok (.invokestatic 131, 3) := by decide +kernel
theorem dX8_minds_44 : decode cX8_minds 44 = .ok (.aload_n 0, 1) := by decide +kernel
theorem dX8_minds_45 : decode cX8_minds 45 = .ok (.aload_n 0, 1) := by decide +kernel
theorem dX8_minds_46 : decode cX8_minds 46 = .ok (.getfield 15, 3) := by decide +kernel
theorem dX8_minds_49 : decode cX8_minds 49 = .ok (.putfield 135, 3) := by decide +kernel
theorem dX8_minds_52 : decode cX8_minds 52 = .ok (.return_, 1) := by decide +kernel
theorem dX8_forgets_0 : decode cX8_forgets 0 = .ok (.aload_n 0, 1) := by decide +kernel
theorem dX8_forgets_1 : decode cX8_forgets 1 = .ok (.getfield 58, 3) := by decide +kernel
theorem dX8_forgets_4 : decode cX8_forgets 4 = .ok (.aload_n 0, 1) := by decide +kernel
theorem dX8_forgets_5 : decode cX8_forgets 5 = .ok (.getfield 22, 3) := by decide +kernel
theorem dX8_forgets_8 : decode cX8_forgets 8 = .ok (.invokestatic 131, 3) := by decide +kernel
theorem dX8_forgets_11 : decode cX8_forgets 11 = .ok (.aload_n 0, 1) := by decide +kernel
theorem dX8_forgets_12 : decode cX8_forgets 12 = .ok (.getfield 61, 3) := by decide +kernel
theorem dX8_forgets_15 : decode cX8_forgets 15 = .ok (.aload_n 0, 1) := by decide +kernel
theorem dX8_forgets_16 : decode cX8_forgets 16 = .ok (.getfield 25, 3) := by decide +kernel
theorem dX8_forgets_19 : decode cX8_forgets 19 = .ok (.invokestatic 131, 3) := by decide +kernel
theorem dX8_forgets_22 : decode cX8_forgets 22 = .ok (.aload_n 0, 1) := by decide +kernel
theorem dX8_forgets_23 : decode cX8_forgets 23 = .ok (.getfield 64, 3) := by decide +kernel
theorem dX8_forgets_26 : decode cX8_forgets 26 = .ok (.aload_n 0, 1) := by decide +kernel
theorem dX8_forgets_27 : decode cX8_forgets 27 = .ok (.getfield 28, 3) := by decide +kernel
theorem dX8_forgets_30 : decode cX8_forgets 30 = .ok (.invokestatic 131, 3) := by decide +kernel
theorem dX8_forgets_33 : decode cX8_forgets 33 = .ok (.aload_n 0, 1) := by decide +kernel
theorem dX8_forgets_34 : decode cX8_forgets 34 = .ok (.getfield 67, 3) := by decide +kernel
theorem dX8_forgets_37 : decode cX8_forgets 37 = .ok (.aload_n 0, 1) := by decide +kernel
theorem dX8_forgets_38 : decode cX8_forgets 38 = .ok (.getfield 49, 3) := by decide +kernel
theorem dX8_forgets_41 : decode cX8_forgets 41 = .ok (.invokestatic 131, 3) := by decide +kernel
theorem dX8_forgets_44 : decode cX8_forgets 44 = .ok (.aload_n 0, 1) := by decide +kernel
theorem dX8_forgets_45 : decode cX8_forgets 45 = .ok (.aload_n 0, 1) := by decide +kernel
theorem dX8_forgets_46 : decode cX8_forgets 46 = .ok (.getfield 135, 3) := by decide +kernel
theorem dX8_forgets_49 : decode cX8_forgets 49 = .ok (.putfield 15, 3) := by decide +kernel
theorem dX8_forgets_52 : decode cX8_forgets 52 = .ok (.return_, 1) := by decide +kernel
theorem dX8_may_0 : decode cX8_may 0 = .ok (.aload_n 0, 1) := by decide +kernel
theorem dX8_may_1 : decode cX8_may 1 = .ok (.getfield 18, 3) := by decide +kernel
theorem dX8_may_4 : decode cX8_may 4 = .ok (.bipush 8, 2) := by decide +kernel
theorem dX8_may_6 : decode cX8_may 6 = .ok (.iload_n 1, 1) := by decide +kernel
theorem dX8_may_7 : decode cX8_may 7 = .ok (.imul, 1) := by decide +kernel
theorem dX8_may_8 : decode cX8_may 8 = .ok (.iload_n 2, 1) := by decide +kernel
theorem dX8_may_9 : decode cX8_may 9 = .ok (.iadd, 1) := by decide +kernel
theorem dX8_may_10 : decode cX8_may 10 = .ok (.iaload, 1) := by decide +kernel
theorem dX8_may_11 : decode cX8_may 11 = .ok (.ifCond .lt 7, 3) := by decide +kernel
theorem dX8_may_14 : decode cX8_may 14 = .ok (.iconst 1, 1) := by decide +kernel
theorem dX8_may_15 : decode cX8_may 15 = .ok (.goto 4, 3) := by decide +kernel
theorem dX8_may_18 : decode cX8_may 18 = .ok (.iconst 0, 1) := by decide +kernel
theorem dX8_may_19 : decode cX8_may 19 = .ok (.ireturn, 1) := by decide +kernel
theorem dX8_gain_0 : decode cX8_gain 0 = .ok (.aload_n 0, 1) := by decide +kernel
theorem dX8_gain_1 : decode cX8_gain 1 = .ok (.getfield 9, 3) := by decide +kernel
theorem dX8_gain_4 : decode cX8_gain 4 = .ok (.iconst 1, 1) := by decide +kernel
theorem dX8_gain_5 : decode cX8_gain 5 = .ok (.iadd, 1) := by decide +kernel
theorem dX8_gain_6 : decode cX8_gain 6 = .ok (.aload_n 0, 1) := by decide +kernel
theorem dX8_gain_7 : decode cX8_gain 7 = .ok (.getfield 18, 3) := by decide +kernel
theorem dX8_gain_10 : decode cX8_gain 10 = .ok (.bipush 8, 2) := by decide +kernel
theorem dX8_gain_12 : decode cX8_gain 12 = .ok (.iload_n 1, 1) := by decide +kernel
theorem dX8_gain_13 : decode cX8_gain 13 = .ok (.imul, 1) := by decide +kernel
theorem dX8_gain_14 : decode cX8_gain 14 = .ok (.iload_n 2, 1) := by decide +kernel
theorem dX8_gain_15 : decode cX8_gain 15 = .ok (.iadd, 1) := by decide +kernel
theorem dX8_gain_16 : decode cX8_gain 16 = .ok (.iaload, 1) := by decide +kernel
theorem dX8_gain_17 : decode cX8_gain 17 = .ok (.imul, 1) := by decide +kernel
theorem dX8_gain_18 : decode cX8_gain 18 = .ok (.aload_n 0, 1) := by decide +kernel
theorem dX8_gain_19 : decode cX8_gain 19 = .ok (.getfield 28, 3) := by decide +kernel
theorem dX8_gain_22 : decode cX8_gain 22 = .ok (.iload_n 2, 1) := by decide +kernel
theorem dX8_gain_23 : decode cX8_gain 23 = .ok (.iaload, 1) := by decide +kernel
theorem dX8_gain_24 : decode cX8_gain 24 = .ok (.isub, 1) := by decide +kernel
theorem dX8_gain_25 : decode cX8_gain 25 = .ok (.ireturn, 1) := by decide +kernel
theorem dX8_best_0 : decode cX8_best 0 = .ok (.iconst (-1), 1) := by decide +kernel
theorem dX8_best_1 : decode cX8_best 1 = .ok (.istore_n 2, 1) := by decide +kernel
theorem dX8_best_2 : decode cX8_best 2 = .ok (.aload_n 0, 1) := by decide +kernel
theorem dX8_best_3 : decode cX8_best 3 = .ok (.getfield 9, 3) := by decide +kernel
theorem dX8_best_6 : decode cX8_best 6 = .ok (.iconst 1, 1) := by decide +kernel
theorem dX8_best_7 : decode cX8_best 7 = .ok (.isub, 1) := by decide +kernel
theorem dX8_best_8 : decode cX8_best 8 = .ok (.istore_n 3, 1) := by decide +kernel
theorem dX8_best_9 : decode cX8_best 9 = .ok (.iload_n 3, 1) := by decide +kernel
theorem dX8_best_10 : decode cX8_best 10 = .ok (.ifCond .lt 39, 3) := by decide +kernel
theorem dX8_best_13 : decode cX8_best 13 = .ok (.aload_n 0, 1) := by decide +kernel
theorem dX8_best_14 : decode cX8_best 14 = .ok (.iload_n 1, 1) := by decide +kernel
theorem dX8_best_15 : decode cX8_best 15 = .ok (.iload_n 3, 1) := by decide +kernel
theorem dX8_best_16 : decode cX8_best 16 = .ok (.invokevirtual 138, 3) := by decide +kernel
theorem dX8_best_19 : decode cX8_best 19 = .ok (.ifCond .eq 24, 3) := by decide +kernel
theorem dX8_best_22 : decode cX8_best 22 = .ok (.iload_n 2, 1) := by decide +kernel
theorem dX8_best_23 : decode cX8_best 23 = .ok (.ifCond .lt 18, 3) := by decide +kernel
theorem dX8_best_26 : decode cX8_best 26 = .ok (.aload_n 0, 1) := by decide +kernel
theorem dX8_best_27 : decode cX8_best 27 = .ok (.iload_n 1, 1) := by decide +kernel
theorem dX8_best_28 : decode cX8_best 28 = .ok (.iload_n 3, 1) := by decide +kernel
theorem dX8_best_29 : decode cX8_best 29 = .ok (.invokevirtual 142, 3) := by decide +kernel
theorem dX8_best_32 : decode cX8_best 32 = .ok (.aload_n 0, 1) := by decide +kernel
theorem dX8_best_33 : decode cX8_best 33 = .ok (.iload_n 1, 1) := by decide +kernel
theorem dX8_best_34 : decode cX8_best 34 = .ok (.iload_n 2, 1) := by decide +kernel
theorem dX8_best_35 : decode cX8_best 35 = .ok (.invokevirtual 142, 3) := by decide +kernel
theorem dX8_best_38 : decode cX8_best 38 = .ok (.if_icmp .lt 5, 3) := by decide +kernel
theorem dX8_best_41 : decode cX8_best 41 = .ok (.iload_n 3, 1) := by decide +kernel
theorem dX8_best_42 : decode cX8_best 42 = .ok (.istore_n 2, 1) := by decide +kernel
theorem dX8_best_43 : decode cX8_best 43 = .ok (.iinc 3 (-1), 3) := by decide +kernel
theorem dX8_best_46 : decode cX8_best 46 = .ok (.goto (-37), 3) := by decide +kernel
theorem dX8_best_49 : decode cX8_best 49 = .ok (.iload_n 2, 1) := by decide +kernel
theorem dX8_best_50 : decode cX8_best 50 = .ok (.ireturn, 1) := by decide +kernel
theorem dX8_second_0 : decode cX8_second 0 = .ok (.iconst (-1), 1) := by decide +kernel
theorem dX8_second_1 : decode cX8_second 1 = .ok (.istore_n 3, 1) := by decide +kernel
theorem dX8_second_2 : decode cX8_second 2 = .ok (.iconst 0, 1) := by decide +kernel
theorem dX8_second_3 : decode cX8_second 3 = .ok (.istore 4, 2) := by decide +kernel
theorem dX8_second_5 : decode cX8_second 5 = .ok (.iload 4, 2) := by decide +kernel
theorem dX8_second_7 : decode cX8_second 7 = .ok (.aload_n 0, 1) := by decide +kernel
theorem dX8_second_8 : decode cX8_second 8 = .ok (.getfield 9, 3) := by decide +kernel
theorem dX8_second_11 : decode cX8_second 11 = .ok (.if_icmp .ge 48, 3) := by decide +kernel
theorem dX8_second_14 : decode cX8_second 14 = .ok (.iload 4, 2) := by decide +kernel
theorem dX8_second_16 : decode cX8_second 16 = .ok (.iload_n 2, 1) := by decide +kernel
theorem dX8_second_17 : decode cX8_second 17 = .ok (.if_icmp .eq 36, 3) := by decide +kernel
theorem dX8_second_20 : decode cX8_second 20 = .ok (.aload_n 0, 1) := by decide +kernel
theorem dX8_second_21 : decode cX8_second 21 = .ok (.iload_n 1, 1) := by decide +kernel
theorem dX8_second_22 : decode cX8_second 22 = .ok (.iload 4, 2) := by decide +kernel
theorem dX8_second_24 : decode cX8_second 24 = .ok (.invokevirtual 138, 3) := by decide +kernel
theorem dX8_second_27 : decode cX8_second 27 = .ok (.ifCond .eq 26, 3) := by decide +kernel
theorem dX8_second_30 : decode cX8_second 30 = .ok (.iload_n 3, 1) := by decide +kernel
theorem dX8_second_31 : decode cX8_second 31 = .ok (.ifCond .lt 19, 3) := by decide +kernel
theorem dX8_second_34 : decode cX8_second 34 = .ok (.aload_n 0, 1) := by decide +kernel
theorem dX8_second_35 : decode cX8_second 35 = .ok (.iload_n 1, 1) := by decide +kernel
theorem dX8_second_36 : decode cX8_second 36 = .ok (.iload 4, 2) := by decide +kernel
theorem dX8_second_38 : decode cX8_second 38 = .ok (.invokevirtual 142, 3) := by decide +kernel
theorem dX8_second_41 : decode cX8_second 41 = .ok (.aload_n 0, 1) := by decide +kernel
theorem dX8_second_42 : decode cX8_second 42 = .ok (.iload_n 1, 1) := by decide +kernel
theorem dX8_second_43 : decode cX8_second 43 = .ok (.iload_n 3, 1) := by decide +kernel
theorem dX8_second_44 : decode cX8_second 44 = .ok (.invokevirtual 142, 3) := by decide +kernel
theorem dX8_second_47 : decode cX8_second 47 = .ok (.if_icmp .le 6, 3) := by decide +kernel
theorem dX8_second_50 : decode cX8_second 50 = .ok (.iload 4, 2) := by decide +kernel
theorem dX8_second_52 : decode cX8_second 52 = .ok (.istore_n 3, 1) := by decide +kernel
theorem dX8_second_53 : decode cX8_second 53 = .ok (.iinc 4 1, 3) := by decide +kernel
theorem dX8_second_56 : decode cX8_second 56 = .ok (.goto (-51), 3) := by decide +kernel
theorem dX8_second_59 : decode cX8_second 59 = .ok (.iload_n 3, 1) := by decide +kernel
theorem dX8_second_60 : decode cX8_second 60 = .ok (.ifCond .ge 15, 3) := by decide +kernel
theorem dX8_second_63 : decode cX8_second 63 = .ok (.aload_n 0, 1) := by decide +kernel
theorem dX8_second_64 : decode cX8_second 64 = .ok (.iload_n 1, 1) := by decide +kernel
theorem dX8_second_65 : decode cX8_second 65 = .ok (.iload_n 2, 1) := by decide +kernel
theorem dX8_second_66 : decode cX8_second 66 = .ok (.invokevirtual 142, 3) := by decide +kernel
theorem dX8_second_69 : decode cX8_second 69 = .ok (.bipush 100, 2) := by decide +kernel
theorem dX8_second_71 : decode cX8_second 71 = .ok (.isub, 1) := by decide +kernel
theorem dX8_second_72 : decode cX8_second 72 = .ok (.goto 9, 3) := by decide +kernel
theorem dX8_second_75 : decode cX8_second 75 = .ok (.aload_n 0, 1) := by decide +kernel
theorem dX8_second_76 : decode cX8_second 76 = .ok (.iload_n 1, 1) := by decide +kernel
theorem dX8_second_77 : decode cX8_second 77 = .ok (.iload_n 3, 1) := by decide +kernel
theorem dX8_second_78 : decode cX8_second 78 = .ok (.invokevirtual 142, 3) := by decide +kernel
theorem dX8_second_81 : decode cX8_second 81 = .ok (.ireturn, 1) := by decide +kernel
theorem dX8_offer_0 : decode cX8_offer 0 = .ok (.aload_n 0, 1) := by decide +kernel
theorem dX8_offer_1 : decode cX8_offer 1 = .ok (.iload_n 1, 1) := by decide +kernel
theorem dX8_offer_2 : decode cX8_offer 2 = .ok (.invokevirtual 146, 3) := by decide +kernel
theorem dX8_offer_5 : decode cX8_offer 5 = .ok (.istore_n 2, 1) := by decide +kernel
theorem dX8_offer_6 : decode cX8_offer 6 = .ok (.aload_n 0, 1) := by decide +kernel
theorem dX8_offer_7 : decode cX8_offer 7 = .ok (.getfield 28, 3) := by decide +kernel
theorem dX8_offer_10 : decode cX8_offer 10 = .ok (.iload_n 2, 1) := by decide +kernel
theorem dX8_offer_11 : decode cX8_offer 11 = .ok (.iaload, 1) := by decide +kernel
theorem dX8_offer_12 : decode cX8_offer 12 = .ok (.aload_n 0, 1) := by decide +kernel
theorem dX8_offer_13 : decode cX8_offer 13 = .ok (.iload_n 1, 1) := by decide +kernel
theorem dX8_offer_14 : decode cX8_offer 14 = .ok (.iload_n 2, 1) := by decide +kernel
theorem dX8_offer_15 : decode cX8_offer 15 = .ok (.invokevirtual 142, 3) := by decide +kernel
theorem dX8_offer_18 : decode cX8_offer 18 = .ok (.iadd, 1) := by decide +kernel
theorem dX8_offer_19 : decode cX8_offer 19 = .ok (.aload_n 0, 1) := by decide +kernel
theorem dX8_offer_20 : decode cX8_offer 20 = .ok (.iload_n 1, 1) := by decide +kernel
theorem dX8_offer_21 : decode cX8_offer 21 = .ok (.iload_n 2, 1) := by decide +kernel
theorem dX8_offer_22 : decode cX8_offer 22 = .ok (.invokevirtual 149, 3) := by decide +kernel
theorem dX8_offer_25 : decode cX8_offer 25 = .ok (.isub, 1) := by decide +kernel
theorem dX8_offer_26 : decode cX8_offer 26 = .ok (.aload_n 0, 1) := by decide +kernel
theorem dX8_offer_27 : decode cX8_offer 27 = .ok (.getfield 15, 3) := by decide +kernel
theorem dX8_offer_30 : decode cX8_offer 30 = .ok (.iadd, 1) := by decide +kernel
theorem dX8_offer_31 : decode cX8_offer 31 = .ok (.ireturn, 1) := by decide +kernel
theorem dX8_next_0 : decode cX8_next 0 = .ok (.iconst 0, 1) := by decide +kernel
theorem dX8_next_1 : decode cX8_next 1 = .ok (.istore_n 1, 1) := by decide +kernel
theorem dX8_next_2 : decode cX8_next 2 = .ok (.iload_n 1, 1) := by decide +kernel
theorem dX8_next_3 : decode cX8_next 3 = .ok (.aload_n 0, 1) := by decide +kernel
theorem dX8_next_4 : decode cX8_next 4 = .ok (.getfield 9, 3) := by decide +kernel
theorem dX8_next_7 : decode cX8_next 7 = .ok (.if_icmp .ge 28, 3) := by decide +kernel
theorem dX8_next_10 : decode cX8_next 10 = .ok (.aload_n 0, 1) := by decide +kernel
theorem dX8_next_11 : decode cX8_next 11 = .ok (.getfield 22, 3) := by decide +kernel
theorem dX8_next_14 : decode cX8_next 14 = .ok (.iload_n 1, 1) := by decide +kernel
theorem dX8_next_15 : decode cX8_next 15 = .ok (.iaload, 1) := by decide +kernel
theorem dX8_next_16 : decode cX8_next 16 = .ok (.ifCond .ge 13, 3) := by decide +kernel
theorem dX8_next_19 : decode cX8_next 19 = .ok (.aload_n 0, 1) := by decide +kernel
theorem dX8_next_20 : decode cX8_next 20 = .ok (.iload_n 1, 1) := by decide +kernel
theorem dX8_next_21 : decode cX8_next 21 = .ok (.invokevirtual 146, 3) := by decide +kernel
theorem dX8_next_24 : decode cX8_next 24 = .ok (.ifCond .lt 5, 3) := by decide +kernel
theorem dX8_next_27 : decode cX8_next 27 = .ok (.iload_n 1, 1) := by decide +kernel
theorem dX8_next_28 : decode cX8_next 28 = .ok (.ireturn, 1) := by decide +kernel
theorem dX8_next_29 : decode cX8_next 29 = .ok (.iinc 1 1, 3) := by decide +kernel
theorem dX8_next_32 : decode cX8_next 32 = .ok (.goto (-30), 3) := by decide +kernel
theorem dX8_next_35 : decode cX8_next 35 = .ok (.iconst (-1), 1) := by decide +kernel
theorem dX8_next_36 : decode cX8_next 36 = .ok (.ireturn, 1) := by decide +kernel
theorem dX8_loses_0 : decode cX8_loses 0 = .ok (.aload_n 0, 1) := by decide +kernel
theorem dX8_loses_1 : decode cX8_loses 1 = .ok (.getfield 22, 3) := by decide +kernel
theorem dX8_loses_4 : decode cX8_loses 4 = .ok (.iload_n 1, 1) := by decide +kernel
theorem dX8_loses_5 : decode cX8_loses 5 = .ok (.iaload, 1) := by decide +kernel
theorem dX8_loses_6 : decode cX8_loses 6 = .ok (.ifCond .lt 22, 3) := by decide +kernel
theorem dX8_loses_9 : decode cX8_loses 9 = .ok (.aload_n 0, 1) := by decide +kernel
theorem dX8_loses_10 : decode cX8_loses 10 = .ok (.getfield 25, 3) := by decide +kernel
theorem dX8_loses_13 : decode cX8_loses 13 = .ok (.aload_n 0, 1) := by decide +kernel
theorem dX8_loses_14 : decode cX8_loses 14 = .ok (.getfield 22, 3) := by decide +kernel
theorem dX8_loses_17 : decode cX8_loses 17 = .ok (.iload_n 1, 1) := by decide +kernel
theorem dX8_loses_18 : decode cX8_loses 18 = .ok (.iaload, 1) := by decide +kernel
theorem dX8_loses_19 : decode cX8_loses 19 = .ok (.iconst (-1), 1) := by decide +kernel
theorem dX8_loses_20 : decode cX8_loses 20 = .ok (.iastore, 1) := by decide +kernel
theorem dX8_loses_21 : decode cX8_loses 21 = .ok (.aload_n 0, 1) := by decide +kernel
theorem dX8_loses_22 : decode cX8_loses 22 = .ok (.getfield 22, 3) := by decide +kernel
theorem dX8_loses_25 : decode cX8_loses 25 = .ok (.iload_n 1, 1) := by decide +kernel
theorem dX8_loses_26 : decode cX8_loses 26 = .ok (.iconst (-1), 1) := by decide +kernel
theorem dX8_loses_27 : decode cX8_loses 27 = .ok (.iastore, 1) := by decide +kernel
theorem dX8_loses_28 : decode cX8_loses 28 = .ok (.return_, 1) := by decide +kernel
theorem dX8_bids_0 : decode cX8_bids 0 = .ok (.aload_n 0, 1) := by decide +kernel
theorem dX8_bids_1 : decode cX8_bids 1 = .ok (.iload_n 1, 1) := by decide +kernel
theorem dX8_bids_2 : decode cX8_bids 2 = .ok (.invokevirtual 146, 3) := by decide +kernel
theorem dX8_bids_5 : decode cX8_bids 5 = .ok (.istore_n 2, 1) := by decide +kernel
theorem dX8_bids_6 : decode cX8_bids 6 = .ok (.aload_n 0, 1) := by decide +kernel
theorem dX8_bids_7 : decode cX8_bids 7 = .ok (.getfield 28, 3) := by decide +kernel
theorem dX8_bids_10 : decode cX8_bids 10 = .ok (.iload_n 2, 1) := by decide +kernel
theorem dX8_bids_11 : decode cX8_bids 11 = .ok (.aload_n 0, 1) := by decide +kernel
theorem dX8_bids_12 : decode cX8_bids 12 = .ok (.iload_n 1, 1) := by decide +kernel
theorem dX8_bids_13 : decode cX8_bids 13 = .ok (.invokevirtual 152, 3) := by decide +kernel
theorem dX8_bids_16 : decode cX8_bids 16 = .ok (.iastore, 1) := by decide +kernel
theorem dX8_bids_17 : decode cX8_bids 17 = .ok (.aload_n 0, 1) := by decide +kernel
theorem dX8_bids_18 : decode cX8_bids 18 = .ok (.getfield 25, 3) := by decide +kernel
theorem dX8_bids_21 : decode cX8_bids 21 = .ok (.iload_n 2, 1) := by decide +kernel
theorem dX8_bids_22 : decode cX8_bids 22 = .ok (.iaload, 1) := by decide +kernel
theorem dX8_bids_23 : decode cX8_bids 23 = .ok (.ifCond .lt 13, 3) := by decide +kernel
theorem dX8_bids_26 : decode cX8_bids 26 = .ok (.aload_n 0, 1) := by decide +kernel
theorem dX8_bids_27 : decode cX8_bids 27 = .ok (.aload_n 0, 1) := by decide +kernel
theorem dX8_bids_28 : decode cX8_bids 28 = .ok (.getfield 25, 3) := by decide +kernel
theorem dX8_bids_31 : decode cX8_bids 31 = .ok (.iload_n 2, 1) := by decide +kernel
theorem dX8_bids_32 : decode cX8_bids 32 = .ok (.iaload, 1) := by decide +kernel
theorem dX8_bids_33 : decode cX8_bids 33 = .ok (.invokevirtual 155, 3) := by decide +kernel
theorem dX8_bids_36 : decode cX8_bids 36 = .ok (.aload_n 0, 1) := by decide +kernel
theorem dX8_bids_37 : decode cX8_bids 37 = .ok (.getfield 25, 3) := by decide +kernel
theorem dX8_bids_40 : decode cX8_bids 40 = .ok (.iload_n 2, 1) := by decide +kernel
theorem dX8_bids_41 : decode cX8_bids 41 = .ok (.iload_n 1, 1) := by decide +kernel
theorem dX8_bids_42 : decode cX8_bids 42 = .ok (.iastore, 1) := by decide +kernel
theorem dX8_bids_43 : decode cX8_bids 43 = .ok (.aload_n 0, 1) := by decide +kernel
theorem dX8_bids_44 : decode cX8_bids 44 = .ok (.getfield 22, 3) := by decide +kernel
theorem dX8_bids_47 : decode cX8_bids 47 = .ok (.iload_n 1, 1) := by decide +kernel
theorem dX8_bids_48 : decode cX8_bids 48 = .ok (.iload_n 2, 1) := by decide +kernel
theorem dX8_bids_49 : decode cX8_bids 49 = .ok (.iastore, 1) := by decide +kernel
theorem dX8_bids_50 : decode cX8_bids 50 = .ok (.iload_n 2, 1) := by decide +kernel
theorem dX8_bids_51 : decode cX8_bids 51 = .ok (.ireturn, 1) := by decide +kernel
theorem dX8_size_0 : decode cX8_size 0 = .ok (.iload_n 1, 1) := by decide +kernel
theorem dX8_size_1 : decode cX8_size 1 = .ok (.i2l, 1) := by decide +kernel
theorem dX8_size_2 : decode cX8_size 2 = .ok (.lconst 1, 1) := by decide +kernel
theorem dX8_size_3 : decode cX8_size 3 = .ok (.ldc2_w 159, 3) := by decide +kernel
theorem dX8_size_6 : decode cX8_size 6 = .ok (.invokestatic 92, 3) := by decide +kernel
theorem dX8_size_9 : decode cX8_size 9 = .ok (.ifCond .ne 6, 3) := by decide +kernel
theorem dX8_size_12 : decode cX8_size 12 = .ok (.bipush (-2), 2) := by decide +kernel
theorem dX8_size_14 : decode cX8_size 14 = .ok (.ireturn, 1) := by decide +kernel
theorem dX8_size_15 : decode cX8_size 15 = .ok (.aload_n 0, 1) := by decide +kernel
theorem dX8_size_16 : decode cX8_size 16 = .ok (.getfield 9, 3) := by decide +kernel
theorem dX8_size_19 : decode cX8_size 19 = .ok (.istore_n 2, 1) := by decide +kernel
theorem dX8_size_20 : decode cX8_size 20 = .ok (.aload_n 0, 1) := by decide +kernel
theorem dX8_size_21 : decode cX8_size 21 = .ok (.iload_n 1, 1) := by decide +kernel
theorem dX8_size_22 : decode cX8_size 22 = .ok (.putfield 9, 3) := by decide +kernel
theorem dX8_size_25 : decode cX8_size 25 = .ok (.iconst 0, 1) := by decide +kernel
theorem dX8_size_26 : decode cX8_size 26 = .ok (.istore_n 3, 1) := by decide +kernel
theorem dX8_size_27 : decode cX8_size 27 = .ok (.iload_n 3, 1) := by decide +kernel
theorem dX8_size_28 : decode cX8_size 28 = .ok (.bipush 64, 2) := by decide +kernel
theorem dX8_size_30 : decode cX8_size 30 = .ok (.if_icmp .ge 16, 3) := by decide +kernel
theorem dX8_size_33 : decode cX8_size 33 = .ok (.aload_n 0, 1) := by decide +kernel
theorem dX8_size_34 : decode cX8_size 34 = .ok (.getfield 18, 3) := by decide +kernel
theorem dX8_size_37 : decode cX8_size 37 = .ok (.iload_n 3, 1) := by decide +kernel
theorem dX8_size_38 : decode cX8_size 38 = .ok (.iconst 0, 1) := by decide +kernel
theorem dX8_size_39 : decode cX8_size 39 = .ok (.iastore, 1) := by decide +kernel
theorem dX8_size_40 : decode cX8_size 40 = .ok (.iinc 3 1, 3) := by decide +kernel
theorem dX8_size_43 : decode cX8_size 43 = .ok (.goto (-16), 3) := by decide +kernel
theorem dX8_size_46 : decode cX8_size 46 = .ok (.aload_n 0, 1) := by decide +kernel
theorem dX8_size_47 : decode cX8_size 47 = .ok (.invokevirtual 88, 3) := by decide +kernel
theorem dX8_size_50 : decode cX8_size 50 = .ok (.pop, 1) := by decide +kernel
theorem dX8_size_51 : decode cX8_size 51 = .ok (.aload_n 0, 1) := by decide +kernel
theorem dX8_size_52 : decode cX8_size 52 = .ok (.invokevirtual 161, 3) := by decide +kernel
theorem dX8_size_55 : decode cX8_size 55 = .ok (.aload_n 0, 1) := by decide +kernel
theorem dX8_size_56 : decode cX8_size 56 = .ok (.iconst 0, 1) := by decide +kernel
theorem dX8_size_57 : decode cX8_size 57 = .ok (.putfield 111, 3) := by decide +kernel
theorem dX8_size_60 : decode cX8_size 60 = .ok (.aload_n 0, 1) := by decide +kernel
theorem dX8_size_61 : decode cX8_size 61 = .ok (.iconst 0, 1) := by decide +kernel
theorem dX8_size_62 : decode cX8_size 62 = .ok (.putfield 114, 3) := by decide +kernel
theorem dX8_size_65 : decode cX8_size 65 = .ok (.aload_n 0, 1) := by decide +kernel
theorem dX8_size_66 : decode cX8_size 66 = .ok (.iconst 0, 1) := by decide +kernel
theorem dX8_size_67 : decode cX8_size 67 = .ok (.putfield 117, 3) := by decide +kernel
theorem dX8_size_70 : decode cX8_size 70 = .ok (.iload_n 2, 1) := by decide +kernel
theorem dX8_size_71 : decode cX8_size 71 = .ok (.ireturn, 1) := by decide +kernel
theorem dX8_becomes_0 : decode cX8_becomes 0 = .ok (.aload_n 0, 1) := by decide +kernel
theorem dX8_becomes_1 : decode cX8_becomes 1 = .ok (.getfield 18, 3) := by decide +kernel
theorem dX8_becomes_4 : decode cX8_becomes 4 = .ok (.bipush 8, 2) := by decide +kernel
theorem dX8_becomes_6 : decode cX8_becomes 6 = .ok (.iload_n 1, 1) := by decide +kernel
theorem dX8_becomes_7 : decode cX8_becomes 7 = .ok (.imul, 1) := by decide +kernel
theorem dX8_becomes_8 : decode cX8_becomes 8 = .ok (.iload_n 2, 1) := by decide +kernel
theorem dX8_becomes_9 : decode cX8_becomes 9 = .ok (.iadd, 1) := by decide +kernel
theorem dX8_becomes_10 : decode cX8_becomes 10 = .ok (.iaload, 1) := by decide +kernel
theorem dX8_becomes_11 : decode cX8_becomes 11 = .ok (.istore 4, 2) := by decide +kernel
theorem dX8_becomes_13 : decode cX8_becomes 13 = .ok (.aload_n 0, 1) := by decide +kernel
theorem dX8_becomes_14 : decode cX8_becomes 14 = .ok (.getfield 18, 3) := by decide +kernel
theorem dX8_becomes_17 : decode cX8_becomes 17 = .ok (.bipush 8, 2) := by decide +kernel
theorem dX8_becomes_19 : decode cX8_becomes 19 = .ok (.iload_n 1, 1) := by decide +kernel
theorem dX8_becomes_20 : decode cX8_becomes 20 = .ok (.imul, 1) := by decide +kernel
theorem dX8_becomes_21 : decode cX8_becomes 21 = .ok (.iload_n 2, 1) := by decide +kernel
theorem dX8_becomes_22 : decode cX8_becomes 22 = .ok (.iadd, 1) := by decide +kernel
theorem dX8_becomes_23 : decode cX8_becomes 23 = .ok (.iload_n 3, 1) := by decide +kernel
theorem dX8_becomes_24 : decode cX8_becomes 24 = .ok (.iastore, 1) := by decide +kernel
theorem dX8_becomes_25 : decode cX8_becomes 25 = .ok (.aload_n 0, 1) := by decide +kernel
theorem dX8_becomes_26 : decode cX8_becomes 26 = .ok (.iload_n 1, 1) := by decide +kernel
theorem dX8_becomes_27 : decode cX8_becomes 27 = .ok (.invokevirtual 155, 3) := by decide +kernel
theorem dX8_becomes_30 : decode cX8_becomes 30 = .ok (.iload 4, 2) := by decide +kernel
theorem dX8_becomes_32 : decode cX8_becomes 32 = .ok (.ifCond .ge 8, 3) := by decide +kernel
theorem dX8_becomes_35 : decode cX8_becomes 35 = .ok (.bipush (-5), 2) := by decide +kernel
theorem dX8_becomes_37 : decode cX8_becomes 37 = .ok (.goto 5, 3) := by decide +kernel
theorem dX8_becomes_40 : decode cX8_becomes 40 = .ok (.iload 4, 2) := by decide +kernel
theorem dX8_becomes_42 : decode cX8_becomes 42 = .ok (.ireturn, 1) := by decide +kernel
theorem dX8_worth_0 : decode cX8_worth 0 = .ok (.aload_n 0, 1) := by decide +kernel
theorem dX8_worth_1 : decode cX8_worth 1 = .ok (.iload_n 1, 1) := by decide +kernel
theorem dX8_worth_2 : decode cX8_worth 2 = .ok (.iload_n 2, 1) := by decide +kernel
theorem dX8_worth_3 : decode cX8_worth 3 = .ok (.invokevirtual 164, 3) := by decide +kernel
theorem dX8_worth_6 : decode cX8_worth 6 = .ok (.ifCond .ne 5, 3) := by decide +kernel
theorem dX8_worth_9 : decode cX8_worth 9 = .ok (.iconst (-1), 1) := by decide +kernel
theorem dX8_worth_10 : decode cX8_worth 10 = .ok (.ireturn, 1) := by decide +kernel
theorem dX8_worth_11 : decode cX8_worth 11 = .ok (.iload_n 3, 1) := by decide +kernel
theorem dX8_worth_12 : decode cX8_worth 12 = .ok (.i2l, 1) := by decide +kernel
theorem dX8_worth_13 : decode cX8_worth 13 = .ok (.ldc2_w 167, 3) := by decide +kernel
theorem dX8_worth_16 : decode cX8_worth 16 = .ok (.ldc2_w 169, 3) := by decide +kernel
theorem dX8_worth_19 : decode cX8_worth 19 = .ok (.invokestatic 92, 3) := by decide +kernel
theorem dX8_worth_22 : decode cX8_worth 22 = .ok (.ifCond .eq 13, 3) := by decide +kernel
theorem dX8_worth_25 : decode cX8_worth 25 = .ok (.aload_n 0, 1) := by decide +kernel
theorem dX8_worth_26 : decode cX8_worth 26 = .ok (.iload_n 1, 1) := by decide +kernel
theorem dX8_worth_27 : decode cX8_worth 27 = .ok (.iload_n 2, 1) := by decide +kernel
theorem dX8_worth_28 : decode cX8_worth 28 = .ok (.iload_n 3, 1) := by decide +kernel
theorem dX8_worth_29 : decode cX8_worth 29 = .ok (.invokevirtual 171, 3) := by decide +kernel
theorem dX8_worth_32 : decode cX8_worth 32 = .ok (.goto 5, 3) := by decide +kernel
theorem dX8_worth_35 : decode cX8_worth 35 = .ok (.bipush (-2), 2) := by decide +kernel
theorem dX8_worth_37 : decode cX8_worth 37 = .ok (.ireturn, 1) := by decide +kernel
theorem dX8_step_0 : decode cX8_step 0 = .ok (.iload_n 1, 1) := by decide +kernel
theorem dX8_step_1 : decode cX8_step 1 = .ok (.i2l, 1) := by decide +kernel
theorem dX8_step_2 : decode cX8_step 2 = .ok (.lconst 1, 1) := by decide +kernel
theorem dX8_step_3 : decode cX8_step 3 = .ok (.ldc2_w 175, 3) := by decide +kernel
theorem dX8_step_6 : decode cX8_step 6 = .ok (.invokestatic 92, 3) := by decide +kernel
theorem dX8_step_9 : decode cX8_step 9 = .ok (.ifCond .ne 6, 3) := by decide +kernel
theorem dX8_step_12 : decode cX8_step 12 = .ok (.bipush (-2), 2) := by decide +kernel
theorem dX8_step_14 : decode cX8_step 14 = .ok (.ireturn, 1) := by decide +kernel
theorem dX8_step_15 : decode cX8_step 15 = .ok (.aload_n 0, 1) := by decide +kernel
theorem dX8_step_16 : decode cX8_step 16 = .ok (.getfield 15, 3) := by decide +kernel
theorem dX8_step_19 : decode cX8_step 19 = .ok (.istore_n 2, 1) := by decide +kernel
theorem dX8_step_20 : decode cX8_step 20 = .ok (.aload_n 0, 1) := by decide +kernel
theorem dX8_step_21 : decode cX8_step 21 = .ok (.iload_n 1, 1) := by decide +kernel
theorem dX8_step_22 : decode cX8_step 22 = .ok (.putfield 15, 3) := by decide +kernel
theorem dX8_step_25 : decode cX8_step 25 = .ok (.iload_n 2, 1) := by decide +kernel
theorem dX8_step_26 : decode cX8_step 26 = .ok (.ireturn, 1) := by decide +kernel
theorem dX8_here_0 : decode cX8_here 0 = .ok (.aload_n 0, 1) := by decide +kernel
theorem dX8_here_1 : decode cX8_here 1 = .ok (.getfield 177, 3) := by decide +kernel
theorem dX8_here_4 : decode cX8_here 4 = .ok (.aload_n 0, 1) := by decide +kernel
theorem dX8_here_5 : decode cX8_here 5 = .ok (.getfield 180, 3) := by decide +kernel
theorem dX8_here_8 : decode cX8_here 8 = .ok (.if_icmp .ge 15, 3) := by decide +kernel
theorem dX8_here_11 : decode cX8_here 11 = .ok (.aload_n 0, 1) := by decide +kernel
theorem dX8_here_12 : decode cX8_here 12 = .ok (.getfield 52, 3) := by decide +kernel
theorem dX8_here_15 : decode cX8_here 15 = .ok (.aload_n 0, 1) := by decide +kernel
theorem dX8_here_16 : decode cX8_here 16 = .ok (.getfield 177, 3) := by decide +kernel
theorem dX8_here_19 : decode cX8_here 19 = .ok (.iaload, 1) := by decide +kernel
theorem dX8_here_20 : decode cX8_here 20 = .ok (.goto 4, 3) := by decide +kernel
theorem dX8_here_23 : decode cX8_here 23 = .ok (.iconst (-1), 1) := by decide +kernel
theorem dX8_here_24 : decode cX8_here 24 = .ok (.ireturn, 1) := by decide +kernel
theorem dX8_takes_0 : decode cX8_takes 0 = .ok (.aload_n 0, 1) := by decide +kernel
theorem dX8_takes_1 : decode cX8_takes 1 = .ok (.invokevirtual 183, 3) := by decide +kernel
theorem dX8_takes_4 : decode cX8_takes 4 = .ok (.istore_n 3, 1) := by decide +kernel
theorem dX8_takes_5 : decode cX8_takes 5 = .ok (.aload_n 0, 1) := by decide +kernel
theorem dX8_takes_6 : decode cX8_takes 6 = .ok (.getfield 186, 3) := by decide +kernel
theorem dX8_takes_9 : decode cX8_takes 9 = .ok (.ifCond .ne 15, 3) := by decide +kernel
theorem dX8_takes_12 : decode cX8_takes 12 = .ok (.iload_n 3, 1) := by decide +kernel
theorem dX8_takes_13 : decode cX8_takes 13 = .ok (.i2l, 1) := by decide +kernel
theorem dX8_takes_14 : decode cX8_takes 14 = .ok (.iload_n 1, 1) := by decide +kernel
theorem dX8_takes_15 : decode cX8_takes 15 = .ok (.i2l, 1) := by decide +kernel
theorem dX8_takes_16 : decode cX8_takes 16 = .ok (.iload_n 2, 1) := by decide +kernel
theorem dX8_takes_17 : decode cX8_takes 17 = .ok (.i2l, 1) := by decide +kernel
theorem dX8_takes_18 : decode cX8_takes 18 = .ok (.invokestatic 92, 3) := by decide +kernel
theorem dX8_takes_21 : decode cX8_takes 21 = .ok (.ifCond .ne 24, 3) := by decide +kernel
theorem dX8_takes_24 : decode cX8_takes 24 = .ok (.aload_n 0, 1) := by decide +kernel
theorem dX8_takes_25 : decode cX8_takes 25 = .ok (.aload_n 0, 1) := by decide +kernel
theorem dX8_takes_26 : decode cX8_takes 26 = .ok (.getfield 186, 3) := by decide +kernel
theorem dX8_takes_29 : decode cX8_takes 29 = .ok (.ifCond .ne 7, 3) := by decide +kernel
theorem dX8_takes_32 : decode cX8_takes 32 = .ok (.iconst 1, 1) := by decide +kernel
theorem dX8_takes_33 : decode cX8_takes 33 = .ok (.goto 7, 3) := by decide +kernel
theorem dX8_takes_36 : decode cX8_takes 36 = .ok (.aload_n 0, 1) := by decide +kernel
theorem dX8_takes_37 : decode cX8_takes 37 = .ok (.getfield 186, 3) := by decide +kernel
theorem dX8_takes_40 : decode cX8_takes 40 = .ok (.putfield 186, 3) := by decide +kernel
theorem dX8_takes_43 : decode cX8_takes 43 = .ok (.iconst (-1), 1) := by decide +kernel
theorem dX8_takes_44 : decode cX8_takes 44 = .ok (.ireturn, 1) := by decide +kernel
theorem dX8_takes_45 : decode cX8_takes 45 = .ok (.aload_n 0, 1) := by decide +kernel
theorem dX8_takes_46 : decode cX8_takes 46 = .ok (.dup, 1) := by decide +kernel
theorem dX8_takes_47 : decode cX8_takes 47 = .ok (.getfield 177, 3) := by decide +kernel
theorem dX8_takes_50 : decode cX8_takes 50 = .ok (.iconst 1, 1) := by decide +kernel
theorem dX8_takes_51 : decode cX8_takes 51 = .ok (.iadd, 1) := by decide +kernel
theorem dX8_takes_52 : decode cX8_takes 52 = .ok (.putfield 177, 3) := by decide +kernel
theorem dX8_takes_55 : decode cX8_takes 55 = .ok (.iload_n 3, 1) := by decide +kernel
theorem dX8_takes_56 : decode cX8_takes 56 = .ok (.iload_n 1, 1) := by decide +kernel
theorem dX8_takes_57 : decode cX8_takes 57 = .ok (.isub, 1) := by decide +kernel
theorem dX8_takes_58 : decode cX8_takes 58 = .ok (.ireturn, 1) := by decide +kernel
theorem dX8_takesOne_0 : decode cX8_takesOne 0 = .ok (.aload_n 0, 1) := by decide +kernel
theorem dX8_takesOne_1 : decode cX8_takesOne 1 = .ok (.iload_n 1, 1) := by decide +kernel
theorem dX8_takesOne_2 : decode cX8_takesOne 2 = .ok (.iload_n 2, 1) := by decide +kernel
theorem dX8_takesOne_3 : decode cX8_takesOne 3 = .ok (.invokevirtual 189, 3) := by decide +kernel
theorem dX8_takesOne_6 : decode cX8_takesOne 6 = .ok (.istore 4, 2) := by decide +kernel
theorem dX8_takesOne_8 : decode cX8_takesOne 8 = .ok (.aload_n 0, 1) := by decide +kernel
theorem dX8_takesOne_9 : decode cX8_takesOne 9 = .ok (.getfield 186, 3) := by decide +kernel
theorem dX8_takesOne_12 : decode cX8_takesOne 12 = .ok (.ifCond .ne 27, 3) := by decide +kernel
theorem dX8_takesOne_15 : decode cX8_takesOne 15 = .ok (.iload 4, 2) := by decide +kernel
theorem dX8_takesOne_17 : decode cX8_takesOne 17 = .ok (.aload_n 0, 1) := by decide +kernel
theorem dX8_takesOne_18 : decode cX8_takesOne 18 = .ok (.getfield 9, 3) := by decide +kernel
theorem dX8_takesOne_21 : decode cX8_takesOne 21 = .ok (.if_icmp .lt 18, 3) := by decide +kernel
theorem dX8_takesOne_24 : decode cX8_takesOne 24 = .ok (.aload_n 0, 1) := by decide +kernel
theorem dX8_takesOne_25 : decode cX8_takesOne 25 = .ok (.dup, 1) := by decide +kernel
theorem dX8_takesOne_26 : decode cX8_takesOne 26 = .ok (.getfield 177, 3) := by decide +kernel
theorem dX8_takesOne_29 : decode cX8_takesOne 29 = .ok (.iconst 1, 1) := by decide +kernel
theorem dX8_takesOne_30 : decode cX8_takesOne 30 = .ok (.isub, 1) := by decide +kernel
theorem dX8_takesOne_31 : decode cX8_takesOne 31 = .ok (.putfield 177, 3) := by decide +kernel
theorem dX8_takesOne_34 : decode cX8_takesOne 34 = .ok (.aload_n 0, 1) := by decide +kernel
theorem dX8_takesOne_35 : decode cX8_takesOne 35 = .ok (.iload_n 3, 1) := by decide +kernel
theorem dX8_takesOne_36 : decode cX8_takesOne 36 = .ok (.putfield 186, 3) := by decide +kernel
theorem dX8_takesOne_39 : decode cX8_takesOne 39 = .ok (.iload 4, 2) := by decide +kernel
theorem dX8_takesOne_41 : decode cX8_takesOne 41 = .ok (.ireturn, 1) := by decide +kernel
theorem dX8_takesWorth_0 : decode cX8_takesWorth 0 = .ok (.aload_n 0, 1) := by decide +kernel
theorem dX8_takesWorth_1 : decode cX8_takesWorth 1 = .ok (.invokevirtual 183, 3) := by decide +kernel
theorem dX8_takesWorth_4 : decode cX8_takesWorth 4 = .ok (.bipush 33, 2) := by decide +kernel
theorem dX8_takesWorth_6 : decode cX8_takesWorth 6 = .ok (.if_icmp .ne 15, 3) := by decide +kernel
theorem dX8_takesWorth_9 : decode cX8_takesWorth 9 = .ok (.aload_n 0, 1) := by decide +kernel
theorem dX8_takesWorth_10 : decode cX8_takesWorth 10 = .ok (.dup, 1) := by decide +kernel
theorem dX8_takesWorth_11 : decode cX8_takesWorth 11 = .ok (.getfield 177, 3) := by decide +kernel
theorem dX8_takesWorth_14 : decode cX8_takesWorth 14 = .ok (.iconst 1, 1) := by decide +kernel
theorem dX8_takesWorth_15 : decode cX8_takesWorth 15 = .ok (.iadd, 1) := by decide +kernel
theorem dX8_takesWorth_16 : decode cX8_takesWorth 16 = .ok (.putfield 177, 3) := by decide +kernel
theorem dX8_takesWorth_19 : decode cX8_takesWorth 19 = .ok (.iconst (-1), 1) := by decide +kernel
theorem dX8_takesWorth_20 : decode cX8_takesWorth 20 = .ok (.ireturn, 1) := by decide +kernel
theorem dX8_takesWorth_21 : decode cX8_takesWorth 21 = .ok (.aload_n 0, 1) := by decide +kernel
theorem dX8_takesWorth_22 : decode cX8_takesWorth 22 = .ok (.bipush 61, 2) := by decide +kernel
theorem dX8_takesWorth_24 : decode cX8_takesWorth 24 = .ok (.bipush 61, 2) := by decide +kernel
theorem dX8_takesWorth_26 : decode cX8_takesWorth 26 = .ok (.invokevirtual 189, 3) := by decide +kernel
theorem dX8_takesWorth_29 : decode cX8_takesWorth 29 = .ok (.pop, 1) := by decide +kernel
theorem dX8_takesWorth_30 : decode cX8_takesWorth 30 = .ok (.aload_n 0, 1) := by decide +kernel
theorem dX8_takesWorth_31 : decode cX8_takesWorth 31 = .ok (.bipush 48, 2) := by decide +kernel
theorem dX8_takesWorth_33 : decode cX8_takesWorth 33 = .ok (.bipush 57, 2) := by decide +kernel
theorem dX8_takesWorth_35 : decode cX8_takesWorth 35 = .ok (.invokevirtual 189, 3) := by decide +kernel
theorem dX8_takesWorth_38 : decode cX8_takesWorth 38 = .ok (.istore_n 1, 1) := by decide +kernel
theorem dX8_takesWorth_39 : decode cX8_takesWorth 39 = .ok (.aload_n 0, 1) := by decide +kernel
theorem dX8_takesWorth_40 : decode cX8_takesWorth 40 = .ok (.getfield 186, 3) := by decide +kernel
theorem dX8_takesWorth_43 : decode cX8_takesWorth 43 = .ok (.ifCond .ne 34, 3) := by decide +kernel
theorem dX8_takesWorth_46 : decode cX8_takesWorth 46 = .ok (.aload_n 0, 1) := by decide +kernel
theorem dX8_takesWorth_47 : decode cX8_takesWorth 47 = .ok (.invokevirtual 183, 3) := by decide +kernel
theorem dX8_takesWorth_50 : decode cX8_takesWorth 50 = .ok (.i2l, 1) := by decide +kernel
theorem dX8_takesWorth_51 : decode cX8_takesWorth 51 = .ok (.ldc2_w 192, 3) := by decide +kernel
theorem dX8_takesWorth_54 : decode cX8_takesWorth 54 = .ok (.ldc2_w 194, 3) := by decide +kernel
theorem dX8_takesWorth_57 : decode cX8_takesWorth 57 = .ok (.invokestatic 92, 3) := by decide +kernel
theorem dX8_takesWorth_60 : decode cX8_takesWorth 60 = .ok (.ifCond .eq 17, 3) := by decide +kernel
theorem dX8_takesWorth_63 : decode cX8_takesWorth 63 = .ok (.bipush 10, 2) := by decide +kernel
theorem dX8_takesWorth_65 : decode cX8_takesWorth 65 = .ok (.iload_n 1, 1) := by decide +kernel
theorem dX8_takesWorth_66 : decode cX8_takesWorth 66 = .ok (.imul, 1) := by decide +kernel
theorem dX8_takesWorth_67 : decode cX8_takesWorth 67 = .ok (.aload_n 0, 1) := by decide +kernel
theorem dX8_takesWorth_68 : decode cX8_takesWorth 68 = .ok (.bipush 48, 2) := by decide +kernel
theorem dX8_takesWorth_70 : decode cX8_takesWorth 70 = .ok (.bipush 57, 2) := by decide +kernel
theorem dX8_takesWorth_72 : decode cX8_takesWorth 72 = .ok (.invokevirtual 189, 3) := by decide +kernel
theorem dX8_takesWorth_75 : decode cX8_takesWorth 75 = .ok (.iadd, 1) := by decide +kernel
theorem dX8_takesWorth_76 : decode cX8_takesWorth 76 = .ok (.istore_n 1, 1) := by decide +kernel
theorem dX8_takesWorth_77 : decode cX8_takesWorth 77 = .ok (.iload_n 1, 1) := by decide +kernel
theorem dX8_takesWorth_78 : decode cX8_takesWorth 78 = .ok (.ireturn, 1) := by decide +kernel
theorem dX8_clause_0 : decode cX8_clause 0 = .ok (.aload_n 0, 1) := by decide +kernel
theorem dX8_clause_1 : decode cX8_clause 1 = .ok (.bipush 97, 2) := by decide +kernel
theorem dX8_clause_3 : decode cX8_clause 3 = .ok (.bipush 104, 2) := by decide +kernel
theorem dX8_clause_5 : decode cX8_clause 5 = .ok (.iconst 2, 1) := by decide +kernel
theorem dX8_clause_6 : decode cX8_clause 6 = .ok (.invokevirtual 196, 3) := by decide +kernel
theorem dX8_clause_9 : decode cX8_clause 9 = .ok (.istore_n 2, 1) := by decide +kernel
theorem dX8_clause_10 : decode cX8_clause 10 = .ok (.aload_n 0, 1) := by decide +kernel
theorem dX8_clause_11 : decode cX8_clause 11 = .ok (.getfield 186, 3) := by decide +kernel
theorem dX8_clause_14 : decode cX8_clause 14 = .ok (.ifCond .ne 15, 3) := by decide +kernel
theorem dX8_clause_17 : decode cX8_clause 17 = .ok (.aload_n 0, 1) := by decide +kernel
theorem dX8_clause_18 : decode cX8_clause 18 = .ok (.bipush 48, 2) := by decide +kernel
theorem dX8_clause_20 : decode cX8_clause 20 = .ok (.bipush 55, 2) := by decide +kernel
theorem dX8_clause_22 : decode cX8_clause 22 = .ok (.iconst 3, 1) := by decide +kernel
theorem dX8_clause_23 : decode cX8_clause 23 = .ok (.invokevirtual 196, 3) := by decide +kernel
theorem dX8_clause_26 : decode cX8_clause 26 = .ok (.goto 4, 3) := by decide +kernel
theorem dX8_clause_29 : decode cX8_clause 29 = .ok (.iconst (-1), 1) := by decide +kernel
theorem dX8_clause_30 : decode cX8_clause 30 = .ok (.istore_n 3, 1) := by decide +kernel
theorem dX8_clause_31 : decode cX8_clause 31 = .ok (.aload_n 0, 1) := by decide +kernel
theorem dX8_clause_32 : decode cX8_clause 32 = .ok (.getfield 186, 3) := by decide +kernel
theorem dX8_clause_35 : decode cX8_clause 35 = .ok (.ifCond .ne 10, 3) := by decide +kernel
theorem dX8_clause_38 : decode cX8_clause 38 = .ok (.aload_n 0, 1) := by decide +kernel
theorem dX8_clause_39 : decode cX8_clause 39 = .ok (.invokevirtual 199, 3) := by decide +kernel
theorem dX8_clause_42 : decode cX8_clause 42 = .ok (.goto 4, 3) := by decide +kernel
theorem dX8_clause_45 : decode cX8_clause 45 = .ok (.iconst (-1), 1) := by decide +kernel
theorem dX8_clause_46 : decode cX8_clause 46 = .ok (.istore 4, 2) := by decide +kernel
theorem dX8_clause_48 : decode cX8_clause 48 = .ok (.aload_n 0, 1) := by decide +kernel
theorem dX8_clause_49 : decode cX8_clause 49 = .ok (.getfield 186, 3) := by decide +kernel
theorem dX8_clause_52 : decode cX8_clause 52 = .ok (.ifCond .eq 4, 3) := by decide +kernel
theorem dX8_clause_55 : decode cX8_clause 55 = .ok (.return_, 1) := by decide +kernel
theorem dX8_clause_56 : decode cX8_clause 56 = .ok (.aload_n 0, 1) := by decide +kernel
theorem dX8_clause_57 : decode cX8_clause 57 = .ok (.dup, 1) := by decide +kernel
theorem dX8_clause_58 : decode cX8_clause 58 = .ok (.getfield 202, 3) := by decide +kernel
theorem dX8_clause_61 : decode cX8_clause 61 = .ok (.iconst 1, 1) := by decide +kernel
theorem dX8_clause_62 : decode cX8_clause 62 = .ok (.iadd, 1) := by decide +kernel
theorem dX8_clause_63 : decode cX8_clause 63 = .ok (.putfield 202, 3) := by decide +kernel
theorem dX8_clause_66 : decode cX8_clause 66 = .ok (.iload_n 1, 1) := by decide +kernel
theorem dX8_clause_67 : decode cX8_clause 67 = .ok (.ifCond .eq 12, 3) := by decide +kernel
theorem dX8_clause_70 : decode cX8_clause 70 = .ok (.aload_n 0, 1) := by decide +kernel
theorem dX8_clause_71 : decode cX8_clause 71 = .ok (.iload_n 2, 1) := by decide +kernel
theorem dX8_clause_72 : decode cX8_clause 72 = .ok (.iload_n 3, 1) := by decide +kernel
theorem dX8_clause_73 : decode cX8_clause 73 = .ok (.iload 4, 2) := by decide +kernel
theorem dX8_clause_75 : decode cX8_clause 75 = .ok (.invokevirtual 171, 3) := by decide +kernel
theorem dX8_clause_78 : decode cX8_clause 78 = .ok (.pop, 1) := by decide +kernel
theorem dX8_clause_79 : decode cX8_clause 79 = .ok (.return_, 1) := by decide +kernel
theorem dX8_goesThrough_0 : decode cX8_goesThrough 0 = .ok (.aload_n 0, 1) := by decide +kernel
theorem dX8_goesThrough_1 : decode cX8_goesThrough 1 = .ok (.iconst 0, 1) := by decide +kernel
theorem dX8_goesThrough_2 : decode cX8_goesThrough 2 = .ok (.putfield 177, 3) := by decide +kernel
theorem dX8_goesThrough_5 : decode cX8_goesThrough 5 = .ok (.aload_n 0, 1) := by decide +kernel
theorem dX8_goesThrough_6 : decode cX8_goesThrough 6 = .ok (.iconst 0, 1) := by decide +kernel
theorem dX8_goesThrough_7 : decode cX8_goesThrough 7 = .ok (.putfield 186, 3) := by decide +kernel
theorem dX8_goesThrough_10 : decode cX8_goesThrough 10 = .ok (.aload_n 0, 1) := by decide +kernel
theorem dX8_goesThrough_11 : decode cX8_goesThrough 11 = .ok (.iconst 0, 1) := by decide +kernel
theorem dX8_goesThrough_12 : decode cX8_goesThrough 12 = .ok (.putfield 202, 3) := by decide +kernel
theorem dX8_goesThrough_15 : decode cX8_goesThrough 15 = .ok (.aload_n 0, 1) := by decide +kernel
theorem dX8_goesThrough_16 : decode cX8_goesThrough 16 = .ok (.iload_n 1, 1) := by decide +kernel
theorem dX8_goesThrough_17 : decode cX8_goesThrough 17 = .ok (.invokevirtual 205, 3) := by decide +kernel
theorem dX8_goesThrough_20 : decode cX8_goesThrough 20 = .ok (.aload_n 0, 1) := by decide +kernel
theorem dX8_goesThrough_21 : decode cX8_goesThrough 21 = .ok (.getfield 186, 3) := by decide +kernel
theorem dX8_goesThrough_24 : decode cX8_goesThrough 24 = .ok (.ifCond .ne 56, 3) := by decide +kernel
theorem dX8_goesThrough_27 : decode cX8_goesThrough 27 = .ok (.aload_n 0, 1) := by decide +kernel
theorem dX8_goesThrough_28 : decode cX8_goesThrough 28 = .ok (.getfield 177, 3) := by decide +kernel
theorem dX8_goesThrough_31 : decode cX8_goesThrough 31 = .ok (.aload_n 0, 1) := by decide +kernel
theorem dX8_goesThrough_32 : decode cX8_goesThrough 32 = .ok (.getfield 180, 3) := by decide +kernel
theorem dX8_goesThrough_35 : decode cX8_goesThrough 35 = .ok (.if_icmp .ge 45, 3) := by decide +kernel
theorem dX8_goesThrough_38 : decode cX8_goesThrough 38 = .ok (.aload_n 0, 1) := by decide +kernel
theorem dX8_goesThrough_39 : decode cX8_goesThrough 39 = .ok (.getfield 202, 3) := by decide +kernel
theorem dX8_goesThrough_42 : decode cX8_goesThrough 42 = .ok (.bipush 16, 2) := by decide +kernel
theorem dX8_goesThrough_44 : decode cX8_goesThrough 44 = .ok (.if_icmp .eq 12, 3) := by decide +kernel
theorem dX8_goesThrough_47 : decode cX8_goesThrough 47 = .ok (.aload_n 0, 1) := by decide +kernel
theorem dX8_goesThrough_48 : decode cX8_goesThrough 48 = .ok (.invokevirtual 183, 3) := by decide +kernel
theorem dX8_goesThrough_51 : decode cX8_goesThrough 51 = .ok (.bipush 59, 2) := by decide +kernel
theorem dX8_goesThrough_53 : decode cX8_goesThrough 53 = .ok (.if_icmp .eq 9, 3) := by decide +kernel
theorem dX8_goesThrough_56 : decode cX8_goesThrough 56 = .ok (.aload_n 0, 1) := by decide +kernel
theorem dX8_goesThrough_57 : decode cX8_goesThrough 57 = .ok (.iconst 1, 1) := by decide +kernel
theorem dX8_goesThrough_58 : decode cX8_goesThrough 58 = .ok (.putfield 186, 3) := by decide +kernel
theorem dX8_goesThrough_61 : decode cX8_goesThrough 61 = .ok (.return_, 1) := by decide +kernel
theorem dX8_goesThrough_62 : decode cX8_goesThrough 62 = .ok (.aload_n 0, 1) := by decide +kernel
theorem dX8_goesThrough_63 : decode cX8_goesThrough 63 = .ok (.dup, 1) := by decide +kernel
theorem dX8_goesThrough_64 : decode cX8_goesThrough 64 = .ok (.getfield 177, 3) := by decide +kernel
theorem dX8_goesThrough_67 : decode cX8_goesThrough 67 = .ok (.iconst 1, 1) := by decide +kernel
theorem dX8_goesThrough_68 : decode cX8_goesThrough 68 = .ok (.iadd, 1) := by decide +kernel
theorem dX8_goesThrough_69 : decode cX8_goesThrough 69 = .ok (.putfield 177, 3) := by decide +kernel
theorem dX8_goesThrough_72 : decode cX8_goesThrough 72 = .ok (.aload_n 0, 1) := by decide +kernel
theorem dX8_goesThrough_73 : decode cX8_goesThrough 73 = .ok (.iload_n 1, 1) := by decide +kernel
theorem dX8_goesThrough_74 : decode cX8_goesThrough 74 = .ok (.invokevirtual 205, 3) := by decide +kernel
theorem dX8_goesThrough_77 : decode cX8_goesThrough 77 = .ok (.goto (-57), 3) := by decide +kernel
theorem dX8_goesThrough_80 : decode cX8_goesThrough 80 = .ok (.return_, 1) := by decide +kernel
theorem dX8_feed_0 : decode cX8_feed 0 = .ok (.iload_n 1, 1) := by decide +kernel
theorem dX8_feed_1 : decode cX8_feed 1 = .ok (.i2l, 1) := by decide +kernel
theorem dX8_feed_2 : decode cX8_feed 2 = .ok (.lconst 0, 1) := by decide +kernel
theorem dX8_feed_3 : decode cX8_feed 3 = .ok (.ldc2_w 209, 3) := by decide +kernel
theorem dX8_feed_6 : decode cX8_feed 6 = .ok (.invokestatic 92, 3) := by decide +kernel
theorem dX8_feed_9 : decode cX8_feed 9 = .ok (.ifCond .ne 6, 3) := by decide +kernel
theorem dX8_feed_12 : decode cX8_feed 12 = .ok (.bipush (-2), 2) := by decide +kernel
theorem dX8_feed_14 : decode cX8_feed 14 = .ok (.ireturn, 1) := by decide +kernel
theorem dX8_feed_15 : decode cX8_feed 15 = .ok (.aload_n 0, 1) := by decide +kernel
theorem dX8_feed_16 : decode cX8_feed 16 = .ok (.getfield 180, 3) := by decide +kernel
theorem dX8_feed_19 : decode cX8_feed 19 = .ok (.bipush 100, 2) := by decide +kernel
theorem dX8_feed_21 : decode cX8_feed 21 = .ok (.if_icmp .ne 6, 3) := by decide +kernel
theorem dX8_feed_24 : decode cX8_feed 24 = .ok (.bipush (-4), 2) := by decide +kernel
theorem dX8_feed_26 : decode cX8_feed 26 = .ok (.ireturn, 1) := by decide +kernel
theorem dX8_feed_27 : decode cX8_feed 27 = .ok (.aload_n 0, 1) := by decide +kernel
theorem dX8_feed_28 : decode cX8_feed 28 = .ok (.getfield 52, 3) := by decide +kernel
theorem dX8_feed_31 : decode cX8_feed 31 = .ok (.aload_n 0, 1) := by decide +kernel
theorem dX8_feed_32 : decode cX8_feed 32 = .ok (.getfield 180, 3) := by decide +kernel
theorem dX8_feed_35 : decode cX8_feed 35 = .ok (.iload_n 1, 1) := by decide +kernel
theorem dX8_feed_36 : decode cX8_feed 36 = .ok (.iastore, 1) := by decide +kernel
theorem dX8_feed_37 : decode cX8_feed 37 = .ok (.aload_n 0, 1) := by decide +kernel
theorem dX8_feed_38 : decode cX8_feed 38 = .ok (.dup, 1) := by decide +kernel
theorem dX8_feed_39 : decode cX8_feed 39 = .ok (.getfield 180, 3) := by decide +kernel
theorem dX8_feed_42 : decode cX8_feed 42 = .ok (.iconst 1, 1) := by decide +kernel
theorem dX8_feed_43 : decode cX8_feed 43 = .ok (.iadd, 1) := by decide +kernel
theorem dX8_feed_44 : decode cX8_feed 44 = .ok (.putfield 180, 3) := by decide +kernel
theorem dX8_feed_47 : decode cX8_feed 47 = .ok (.aload_n 0, 1) := by decide +kernel
theorem dX8_feed_48 : decode cX8_feed 48 = .ok (.getfield 180, 3) := by decide +kernel
theorem dX8_feed_51 : decode cX8_feed 51 = .ok (.ireturn, 1) := by decide +kernel
theorem dX8_read_0 : decode cX8_read 0 = .ok (.aload_n 0, 1) := by decide +kernel
theorem dX8_read_1 : decode cX8_read 1 = .ok (.iconst 0, 1) := by decide +kernel
theorem dX8_read_2 : decode cX8_read 2 = .ok (.invokevirtual 211, 3) := by decide +kernel
theorem dX8_read_5 : decode cX8_read 5 = .ok (.aload_n 0, 1) := by decide +kernel
theorem dX8_read_6 : decode cX8_read 6 = .ok (.getfield 186, 3) := by decide +kernel
theorem dX8_read_9 : decode cX8_read 9 = .ok (.ifCond .ne 18, 3) := by decide +kernel
theorem dX8_read_12 : decode cX8_read 12 = .ok (.aload_n 0, 1) := by decide +kernel
theorem dX8_read_13 : decode cX8_read 13 = .ok (.iconst 1, 1) := by decide +kernel
theorem dX8_read_14 : decode cX8_read 14 = .ok (.invokevirtual 211, 3) := by decide +kernel
theorem dX8_read_17 : decode cX8_read 17 = .ok (.aload_n 0, 1) := by decide +kernel
theorem dX8_read_18 : decode cX8_read 18 = .ok (.iconst 0, 1) := by decide +kernel
theorem dX8_read_19 : decode cX8_read 19 = .ok (.putfield 180, 3) := by decide +kernel
theorem dX8_read_22 : decode cX8_read 22 = .ok (.aload_n 0, 1) := by decide +kernel
theorem dX8_read_23 : decode cX8_read 23 = .ok (.getfield 202, 3) := by decide +kernel
theorem dX8_read_26 : decode cX8_read 26 = .ok (.ireturn, 1) := by decide +kernel
theorem dX8_read_27 : decode cX8_read 27 = .ok (.aload_n 0, 1) := by decide +kernel
theorem dX8_read_28 : decode cX8_read 28 = .ok (.aload_n 0, 1) := by decide +kernel
theorem dX8_read_29 : decode cX8_read 29 = .ok (.getfield 186, 3) := by decide +kernel
theorem dX8_read_32 : decode cX8_read 32 = .ok (.bipush 100, 2) := by decide +kernel
theorem dX8_read_34 : decode cX8_read 34 = .ok (.aload_n 0, 1) := by decide +kernel
theorem dX8_read_35 : decode cX8_read 35 = .ok (.getfield 202, 3) := by decide +kernel
theorem dX8_read_38 : decode cX8_read 38 = .ok (.iadd, 1) := by decide +kernel
theorem dX8_read_39 : decode cX8_read 39 = .ok (.bipush (-5), 2) := by decide +kernel
theorem dX8_read_41 : decode cX8_read 41 = .ok (.invokevirtual 214, 3) := by decide +kernel
theorem dX8_read_44 : decode cX8_read 44 = .ok (.aload_n 0, 1) := by decide +kernel
theorem dX8_read_45 : decode cX8_read 45 = .ok (.iconst 0, 1) := by decide +kernel
theorem dX8_read_46 : decode cX8_read 46 = .ok (.putfield 180, 3) := by decide +kernel
theorem dX8_read_49 : decode cX8_read 49 = .ok (.bipush (-10), 2) := by decide +kernel
theorem dX8_read_51 : decode cX8_read 51 = .ok (.aload_n 0, 1) := by decide +kernel
theorem dX8_read_52 : decode cX8_read 52 = .ok (.getfield 177, 3) := by decide +kernel
theorem dX8_read_55 : decode cX8_read 55 = .ok (.isub, 1) := by decide +kernel
theorem dX8_read_56 : decode cX8_read 56 = .ok (.ireturn, 1) := by decide +kernel
theorem dX8_tellsWrong_0 : decode cX8_tellsWrong 0 = .ok (.aload_n 0, 1) := by decide +kernel
theorem dX8_tellsWrong_1 : decode cX8_tellsWrong 1 = .ok (.getfield 49, 3) := by decide +kernel
theorem dX8_tellsWrong_4 : decode cX8_tellsWrong 4 = .ok (.iconst 0, 1) := by decide +kernel
theorem dX8_tellsWrong_5 : decode cX8_tellsWrong 5 = .ok (.iload_n 1, 1) := by decide +kernel
theorem dX8_tellsWrong_6 : decode cX8_tellsWrong 6 = .ok (.iastore, 1) := by decide +kernel
theorem dX8_tellsWrong_7 : decode cX8_tellsWrong 7 = .ok (.aload_n 0, 1) := by decide +kernel
theorem dX8_tellsWrong_8 : decode cX8_tellsWrong 8 = .ok (.getfield 49, 3) := by decide +kernel
theorem dX8_tellsWrong_11 : decode cX8_tellsWrong 11 = .ok (.iconst 1, 1) := by decide +kernel
theorem dX8_tellsWrong_12 : decode cX8_tellsWrong 12 = .ok (.iload_n 2, 1) := by decide +kernel
theorem dX8_tellsWrong_13 : decode cX8_tellsWrong 13 = .ok (.iastore, 1) := by decide +kernel
theorem dX8_tellsWrong_14 : decode cX8_tellsWrong 14 = .ok (.aload_n 0, 1) := by decide +kernel
theorem dX8_tellsWrong_15 : decode cX8_tellsWrong 15 = .ok (.getfield 49, 3) := by decide +kernel
theorem dX8_tellsWrong_18 : decode cX8_tellsWrong 18 = .ok (.iconst 2, 1) := by decide +kernel
theorem dX8_tellsWrong_19 : decode cX8_tellsWrong 19 = .ok (.iload_n 3, 1) := by decide +kernel
theorem dX8_tellsWrong_20 : decode cX8_tellsWrong 20 = .ok (.iastore, 1) := by decide +kernel
theorem dX8_tellsWrong_21 : decode cX8_tellsWrong 21 = .ok (.return_, 1) := by decide +kernel
theorem dX8_wrong_0 : decode cX8_wrong 0 = .ok (.iload_n 1, 1) := by decide +kernel
theorem dX8_wrong_1 : decode cX8_wrong 1 = .ok (.ifCond .ge 5, 3) := by decide +kernel
theorem dX8_wrong_4 : decode cX8_wrong 4 = .ok (.iconst (-1), 1) := by decide +kernel
theorem dX8_wrong_5 : decode cX8_wrong 5 = .ok (.ireturn, 1) := by decide +kernel
theorem dX8_wrong_6 : decode cX8_wrong 6 = .ok (.iload_n 1, 1) := by decide +kernel
theorem dX8_wrong_7 : decode cX8_wrong 7 = .ok (.iconst 3, 1) := by decide +kernel
theorem dX8_wrong_8 : decode cX8_wrong 8 = .ok (.if_icmp .ge 12, 3) := by decide +kernel
theorem dX8_wrong_11 : decode cX8_wrong 11 = .ok (.aload_n 0, 1) := by decide +kernel
theorem dX8_wrong_12 : decode cX8_wrong 12 = .ok (.getfield 49, 3) := by decide +kernel
theorem dX8_wrong_15 : decode cX8_wrong 15 = .ok (.iload_n 1, 1) := by decide +kernel
theorem dX8_wrong_16 : decode cX8_wrong 16 = .ok (.iaload, 1) := by decide +kernel
theorem dX8_wrong_17 : decode cX8_wrong 17 = .ok (.goto 5, 3) := by decide +kernel
theorem dX8_wrong_20 : decode cX8_wrong 20 = .ok (.bipush (-5), 2) := by decide +kernel
theorem dX8_wrong_22 : decode cX8_wrong 22 = .ok (.ireturn, 1) := by decide +kernel
theorem dX8_bidsAll_0 : decode cX8_bidsAll 0 = .ok (.iconst 0, 1) := by decide +kernel
theorem dX8_bidsAll_1 : decode cX8_bidsAll 1 = .ok (.istore_n 1, 1) := by decide +kernel
theorem dX8_bidsAll_2 : decode cX8_bidsAll 2 = .ok (.aload_n 0, 1) := by decide +kernel
theorem dX8_bidsAll_3 : decode cX8_bidsAll 3 = .ok (.iconst 0, 1) := by decide +kernel
theorem dX8_bidsAll_4 : decode cX8_bidsAll 4 = .ok (.putfield 218, 3) := by decide +kernel
theorem dX8_bidsAll_7 : decode cX8_bidsAll 7 = .ok (.aload_n 0, 1) := by decide +kernel
theorem dX8_bidsAll_8 : decode cX8_bidsAll 8 = .ok (.invokevirtual 221, 3) := by decide +kernel
theorem dX8_bidsAll_11 : decode cX8_bidsAll 11 = .ok (.istore_n 2, 1) := by decide +kernel
theorem dX8_bidsAll_12 : decode cX8_bidsAll 12 = .ok (.iload_n 2, 1) := by decide +kernel
theorem dX8_bidsAll_13 : decode cX8_bidsAll 13 = .ok (.ifCond .lt 67, 3) := by decide +kernel
theorem dX8_bidsAll_16 : decode cX8_bidsAll 16 = .ok (.aload_n 0, 1) := by decide +kernel
theorem dX8_bidsAll_17 : decode cX8_bidsAll 17 = .ok (.getfield 218, 3) := by decide +kernel
theorem dX8_bidsAll_20 : decode cX8_bidsAll 20 = .ok (.ifCond .ne 60, 3) := by decide +kernel
theorem dX8_bidsAll_23 : decode cX8_bidsAll 23 = .ok (.aload_n 0, 1) := by decide +kernel
theorem dX8_bidsAll_24 : decode cX8_bidsAll 24 = .ok (.iload_n 2, 1) := by decide +kernel
theorem dX8_bidsAll_25 : decode cX8_bidsAll 25 = .ok (.invokevirtual 224, 3) := by decide +kernel
theorem dX8_bidsAll_28 : decode cX8_bidsAll 28 = .ok (.istore_n 3, 1) := by decide +kernel
theorem dX8_bidsAll_29 : decode cX8_bidsAll 29 = .ok (.iinc 1 1, 3) := by decide +kernel
theorem dX8_bidsAll_32 : decode cX8_bidsAll 32 = .ok (.aload_n 0, 1) := by decide +kernel
theorem dX8_bidsAll_33 : decode cX8_bidsAll 33 = .ok (.aload_n 0, 1) := by decide +kernel
theorem dX8_bidsAll_34 : decode cX8_bidsAll 34 = .ok (.getfield 28, 3) := by decide +kernel
theorem dX8_bidsAll_37 : decode cX8_bidsAll 37 = .ok (.iload_n 3, 1) := by decide +kernel
theorem dX8_bidsAll_38 : decode cX8_bidsAll 38 = .ok (.iaload, 1) := by decide +kernel
theorem dX8_bidsAll_39 : decode cX8_bidsAll 39 = .ok (.sipush 2000, 3) := by decide +kernel
theorem dX8_bidsAll_42 : decode cX8_bidsAll 42 = .ok (.if_icmp .le 7, 3) := by decide +kernel
theorem dX8_bidsAll_45 : decode cX8_bidsAll 45 = .ok (.iconst 1, 1) := by decide +kernel
theorem dX8_bidsAll_46 : decode cX8_bidsAll 46 = .ok (.goto 4, 3) := by decide +kernel
theorem dX8_bidsAll_49 : decode cX8_bidsAll 49 = .ok (.iconst 0, 1) := by decide +kernel
theorem dX8_bidsAll_50 : decode cX8_bidsAll 50 = .ok (.putfield 218, 3) := by decide +kernel
theorem dX8_bidsAll_53 : decode cX8_bidsAll 53 = .ok (.aload_n 0, 1) := by decide +kernel
theorem dX8_bidsAll_54 : decode cX8_bidsAll 54 = .ok (.getfield 218, 3) := by decide +kernel
theorem dX8_bidsAll_57 : decode cX8_bidsAll 57 = .ok (.ifCond .eq 15, 3) := by decide +kernel
theorem dX8_bidsAll_60 : decode cX8_bidsAll 60 = .ok (.aload_n 0, 1) := by decide +kernel
theorem dX8_bidsAll_61 : decode cX8_bidsAll 61 = .ok (.iconst 4, 1) := by decide +kernel
theorem dX8_bidsAll_62 : decode cX8_bidsAll 62 = .ok (.sipush 200, 3) := by decide +kernel
theorem dX8_bidsAll_65 : decode cX8_bidsAll 65 = .ok (.iload_n 2, 1) := by decide +kernel
theorem dX8_bidsAll_66 : decode cX8_bidsAll 66 = .ok (.iadd, 1) := by decide +kernel
theorem dX8_bidsAll_67 : decode cX8_bidsAll 67 = .ok (.bipush (-5), 2) := by decide +kernel
theorem dX8_bidsAll_69 : decode cX8_bidsAll 69 = .ok (.invokevirtual 214, 3) := by decide +kernel
theorem dX8_bidsAll_72 : decode cX8_bidsAll 72 = .ok (.aload_n 0, 1) := by decide +kernel
theorem dX8_bidsAll_73 : decode cX8_bidsAll 73 = .ok (.invokevirtual 221, 3) := by decide +kernel
theorem dX8_bidsAll_76 : decode cX8_bidsAll 76 = .ok (.istore_n 2, 1) := by decide +kernel
theorem dX8_bidsAll_77 : decode cX8_bidsAll 77 = .ok (.goto (-65), 3) := by decide +kernel
theorem dX8_bidsAll_80 : decode cX8_bidsAll 80 = .ok (.aload_n 0, 1) := by decide +kernel
theorem dX8_bidsAll_81 : decode cX8_bidsAll 81 = .ok (.getfield 218, 3) := by decide +kernel
theorem dX8_bidsAll_84 : decode cX8_bidsAll 84 = .ok (.ifCond .ne 7, 3) := by decide +kernel
theorem dX8_bidsAll_87 : decode cX8_bidsAll 87 = .ok (.aload_n 0, 1) := by decide +kernel
theorem dX8_bidsAll_88 : decode cX8_bidsAll 88 = .ok (.invokevirtual 227, 3) := by decide +kernel
theorem dX8_bidsAll_91 : decode cX8_bidsAll 91 = .ok (.iload_n 1, 1) := by decide +kernel
theorem dX8_bidsAll_92 : decode cX8_bidsAll 92 = .ok (.ireturn, 1) := by decide +kernel
theorem dX8_tellsLeft_0 : decode cX8_tellsLeft 0 = .ok (.iconst 0, 1) := by decide +kernel
theorem dX8_tellsLeft_1 : decode cX8_tellsLeft 1 = .ok (.istore_n 1, 1) := by decide +kernel
theorem dX8_tellsLeft_2 : decode cX8_tellsLeft 2 = .ok (.iconst (-1), 1) := by decide +kernel
theorem dX8_tellsLeft_3 : decode cX8_tellsLeft 3 = .ok (.istore_n 2, 1) := by decide +kernel
theorem dX8_tellsLeft_4 : decode cX8_tellsLeft 4 = .ok (.aload_n 0, 1) := by decide +kernel
theorem dX8_tellsLeft_5 : decode cX8_tellsLeft 5 = .ok (.getfield 9, 3) := by decide +kernel
theorem dX8_tellsLeft_8 : decode cX8_tellsLeft 8 = .ok (.iconst 1, 1) := by decide +kernel
theorem dX8_tellsLeft_9 : decode cX8_tellsLeft 9 = .ok (.isub, 1) := by decide +kernel
theorem dX8_tellsLeft_10 : decode cX8_tellsLeft 10 = .ok (.istore_n 3, 1) := by decide +kernel
theorem dX8_tellsLeft_11 : decode cX8_tellsLeft 11 = .ok (.iload_n 3, 1) := by decide +kernel
theorem dX8_tellsLeft_12 : decode cX8_tellsLeft 12 = .ok (.ifCond .lt 41, 3) := by decide +kernel
theorem dX8_tellsLeft_15 : decode cX8_tellsLeft 15 = .ok (.iload_n 1, 1) := by decide +kernel
theorem dX8_tellsLeft_16 : decode cX8_tellsLeft 16 = .ok (.aload_n 0, 1) := by decide +kernel
theorem dX8_tellsLeft_17 : decode cX8_tellsLeft 17 = .ok (.getfield 22, 3) := by decide +kernel
theorem dX8_tellsLeft_20 : decode cX8_tellsLeft 20 = .ok (.iload_n 3, 1) := by decide +kernel
theorem dX8_tellsLeft_21 : decode cX8_tellsLeft 21 = .ok (.iaload, 1) := by decide +kernel
theorem dX8_tellsLeft_22 : decode cX8_tellsLeft 22 = .ok (.ifCond .ge 7, 3) := by decide +kernel
theorem dX8_tellsLeft_25 : decode cX8_tellsLeft 25 = .ok (.iconst 1, 1) := by decide +kernel
theorem dX8_tellsLeft_26 : decode cX8_tellsLeft 26 = .ok (.goto 4, 3) := by decide +kernel
theorem dX8_tellsLeft_29 : decode cX8_tellsLeft 29 = .ok (.iconst 0, 1) := by decide +kernel
theorem dX8_tellsLeft_30 : decode cX8_tellsLeft 30 = .ok (.iadd, 1) := by decide +kernel
theorem dX8_tellsLeft_31 : decode cX8_tellsLeft 31 = .ok (.istore_n 1, 1) := by decide +kernel
theorem dX8_tellsLeft_32 : decode cX8_tellsLeft 32 = .ok (.aload_n 0, 1) := by decide +kernel
theorem dX8_tellsLeft_33 : decode cX8_tellsLeft 33 = .ok (.getfield 22, 3) := by decide +kernel
theorem dX8_tellsLeft_36 : decode cX8_tellsLeft 36 = .ok (.iload_n 3, 1) := by decide +kernel
theorem dX8_tellsLeft_37 : decode cX8_tellsLeft 37 = .ok (.iaload, 1) := by decide +kernel
theorem dX8_tellsLeft_38 : decode cX8_tellsLeft 38 = .ok (.ifCond .ge 7, 3) := by decide +kernel
theorem dX8_tellsLeft_41 : decode cX8_tellsLeft 41 = .ok (.iload_n 3, 1) := by decide +kernel
theorem dX8_tellsLeft_42 : decode cX8_tellsLeft 42 = .ok (.goto 4, 3) := by decide +kernel
theorem dX8_tellsLeft_45 : decode cX8_tellsLeft 45 = .ok (.iload_n 2, 1) := by decide +kernel
theorem dX8_tellsLeft_46 : decode cX8_tellsLeft 46 = .ok (.istore_n 2, 1) := by decide +kernel
theorem dX8_tellsLeft_47 : decode cX8_tellsLeft 47 = .ok (.iinc 3 (-1), 3) := by decide +kernel
theorem dX8_tellsLeft_50 : decode cX8_tellsLeft 50 = .ok (.goto (-39), 3) := by decide +kernel
theorem dX8_tellsLeft_53 : decode cX8_tellsLeft 53 = .ok (.iload_n 1, 1) := by decide +kernel
theorem dX8_tellsLeft_54 : decode cX8_tellsLeft 54 = .ok (.ifCond .le 18, 3) := by decide +kernel
theorem dX8_tellsLeft_57 : decode cX8_tellsLeft 57 = .ok (.aload_n 0, 1) := by decide +kernel
theorem dX8_tellsLeft_58 : decode cX8_tellsLeft 58 = .ok (.iconst 5, 1) := by decide +kernel
theorem dX8_tellsLeft_59 : decode cX8_tellsLeft 59 = .ok (.sipush 200, 3) := by decide +kernel
theorem dX8_tellsLeft_62 : decode cX8_tellsLeft 62 = .ok (.iload_n 2, 1) := by decide +kernel
theorem dX8_tellsLeft_63 : decode cX8_tellsLeft 63 = .ok (.iadd, 1) := by decide +kernel
theorem dX8_tellsLeft_64 : decode cX8_tellsLeft 64 = .ok (.sipush 300, 3) := by decide +kernel
theorem dX8_tellsLeft_67 : decode cX8_tellsLeft 67 = .ok (.iload_n 1, 1) := by decide +kernel
theorem dX8_tellsLeft_68 : decode cX8_tellsLeft 68 = .ok (.iadd, 1) := by decide +kernel
theorem dX8_tellsLeft_69 : decode cX8_tellsLeft 69 = .ok (.invokevirtual 214, 3) := by decide +kernel
theorem dX8_tellsLeft_72 : decode cX8_tellsLeft 72 = .ok (.return_, 1) := by decide +kernel
theorem dX8_bid_0 : decode cX8_bid 0 = .ok (.aload_n 0, 1) := by decide +kernel
theorem dX8_bid_1 : decode cX8_bid 1 = .ok (.invokevirtual 221, 3) := by decide +kernel
theorem dX8_bid_4 : decode cX8_bid 4 = .ok (.istore_n 1, 1) := by decide +kernel
theorem dX8_bid_5 : decode cX8_bid 5 = .ok (.iload_n 1, 1) := by decide +kernel
theorem dX8_bid_6 : decode cX8_bid 6 = .ok (.ifCond .ge 8, 3) := by decide +kernel
theorem dX8_bid_9 : decode cX8_bid 9 = .ok (.bipush (-5), 2) := by decide +kernel
theorem dX8_bid_11 : decode cX8_bid 11 = .ok (.goto 8, 3) := by decide +kernel
theorem dX8_bid_14 : decode cX8_bid 14 = .ok (.aload_n 0, 1) := by decide +kernel
theorem dX8_bid_15 : decode cX8_bid 15 = .ok (.iload_n 1, 1) := by decide +kernel
theorem dX8_bid_16 : decode cX8_bid 16 = .ok (.invokevirtual 224, 3) := by decide +kernel
theorem dX8_bid_19 : decode cX8_bid 19 = .ok (.ireturn, 1) := by decide +kernel
theorem dX8_auction_0 : decode cX8_auction 0 = .ok (.aload_n 0, 1) := by decide +kernel
theorem dX8_auction_1 : decode cX8_auction 1 = .ok (.invokevirtual 230, 3) := by decide +kernel
theorem dX8_auction_4 : decode cX8_auction 4 = .ok (.istore_n 1, 1) := by decide +kernel
theorem dX8_auction_5 : decode cX8_auction 5 = .ok (.aload_n 0, 1) := by decide +kernel
theorem dX8_auction_6 : decode cX8_auction 6 = .ok (.getfield 218, 3) := by decide +kernel
theorem dX8_auction_9 : decode cX8_auction 9 = .ok (.ifCond .eq 10, 3) := by decide +kernel
theorem dX8_auction_12 : decode cX8_auction 12 = .ok (.bipush (-10), 2) := by decide +kernel
theorem dX8_auction_14 : decode cX8_auction 14 = .ok (.iload_n 1, 1) := by decide +kernel
theorem dX8_auction_15 : decode cX8_auction 15 = .ok (.isub, 1) := by decide +kernel
theorem dX8_auction_16 : decode cX8_auction 16 = .ok (.goto 4, 3) := by decide +kernel
theorem dX8_auction_19 : decode cX8_auction 19 = .ok (.iload_n 1, 1) := by decide +kernel
theorem dX8_auction_20 : decode cX8_auction 20 = .ok (.ireturn, 1) := by decide +kernel
theorem dX8_scaled_0 : decode cX8_scaled 0 = .ok (.aload_n 0, 1) := by decide +kernel
theorem dX8_scaled_1 : decode cX8_scaled 1 = .ok (.getfield 15, 3) := by decide +kernel
theorem dX8_scaled_4 : decode cX8_scaled 4 = .ok (.istore_n 1, 1) := by decide +kernel
theorem dX8_scaled_5 : decode cX8_scaled 5 = .ok (.iconst 0, 1) := by decide +kernel
theorem dX8_scaled_6 : decode cX8_scaled 6 = .ok (.istore_n 2, 1) := by decide +kernel
theorem dX8_scaled_7 : decode cX8_scaled 7 = .ok (.iconst 1, 1) := by decide +kernel
theorem dX8_scaled_8 : decode cX8_scaled 8 = .ok (.istore_n 3, 1) := by decide +kernel
theorem dX8_scaled_9 : decode cX8_scaled 9 = .ok (.iconst 0, 1) := by decide +kernel
theorem dX8_scaled_10 : decode cX8_scaled 10 = .ok (.istore 4, 2) := by decide +kernel
theorem dX8_scaled_12 : decode cX8_scaled 12 = .ok (.iload 4, 2) := by decide +kernel
theorem dX8_scaled_14 : decode cX8_scaled 14 = .ok (.iconst 4, 1) := by decide +kernel
theorem dX8_scaled_15 : decode cX8_scaled 15 = .ok (.if_icmp .ge 74, 3) := by decide +kernel
theorem dX8_scaled_18 : decode cX8_scaled 18 = .ok (.iload_n 3, 1) := by decide +kernel
theorem dX8_scaled_19 : decode cX8_scaled 19 = .ok (.ifCond .eq 70, 3) := by decide +kernel
theorem dX8_scaled_22 : decode cX8_scaled 22 = .ok (.aload_n 0, 1) := by decide +kernel
theorem dX8_scaled_23 : decode cX8_scaled 23 = .ok (.iload 4, 2) := by decide +kernel
theorem dX8_scaled_25 : decode cX8_scaled 25 = .ok (.ifCond .ne 8, 3) := by decide +kernel
theorem dX8_scaled_28 : decode cX8_scaled 28 = .ok (.bipush 50, 2) := by decide +kernel
theorem dX8_scaled_30 : decode cX8_scaled 30 = .ok (.goto 25, 3) := by decide +kernel
theorem dX8_scaled_33 : decode cX8_scaled 33 = .ok (.iload 4, 2) := by decide +kernel
theorem dX8_scaled_35 : decode cX8_scaled 35 = .ok (.iconst 1, 1) := by decide +kernel
theorem dX8_scaled_36 : decode cX8_scaled 36 = .ok (.if_icmp .ne 8, 3) := by decide +kernel
theorem dX8_scaled_39 : decode cX8_scaled 39 = .ok (.bipush 10, 2) := by decide +kernel
theorem dX8_scaled_41 : decode cX8_scaled 41 = .ok (.goto 14, 3) := by decide +kernel
theorem dX8_scaled_44 : decode cX8_scaled 44 = .ok (.iload 4, 2) := by decide +kernel
theorem dX8_scaled_46 : decode cX8_scaled 46 = .ok (.iconst 2, 1) := by decide +kernel
theorem dX8_scaled_47 : decode cX8_scaled 47 = .ok (.if_icmp .ne 7, 3) := by decide +kernel
theorem dX8_scaled_50 : decode cX8_scaled 50 = .ok (.iconst 2, 1) := by decide +kernel
theorem dX8_scaled_51 : decode cX8_scaled 51 = .ok (.goto 4, 3) := by decide +kernel
theorem dX8_scaled_54 : decode cX8_scaled 54 = .ok (.iconst 1, 1) := by decide +kernel
theorem dX8_scaled_55 : decode cX8_scaled 55 = .ok (.putfield 15, 3) := by decide +kernel
theorem dX8_scaled_58 : decode cX8_scaled 58 = .ok (.aload_n 0, 1) := by decide +kernel
theorem dX8_scaled_59 : decode cX8_scaled 59 = .ok (.invokevirtual 88, 3) := by decide +kernel
theorem dX8_scaled_62 : decode cX8_scaled 62 = .ok (.pop, 1) := by decide +kernel
theorem dX8_scaled_63 : decode cX8_scaled 63 = .ok (.iload_n 2, 1) := by decide +kernel
theorem dX8_scaled_64 : decode cX8_scaled 64 = .ok (.aload_n 0, 1) := by decide +kernel
theorem dX8_scaled_65 : decode cX8_scaled 65 = .ok (.invokevirtual 230, 3) := by decide +kernel
theorem dX8_scaled_68 : decode cX8_scaled 68 = .ok (.iadd, 1) := by decide +kernel
theorem dX8_scaled_69 : decode cX8_scaled 69 = .ok (.istore_n 2, 1) := by decide +kernel
theorem dX8_scaled_70 : decode cX8_scaled 70 = .ok (.aload_n 0, 1) := by decide +kernel
theorem dX8_scaled_71 : decode cX8_scaled 71 = .ok (.getfield 218, 3) := by decide +kernel
theorem dX8_scaled_74 : decode cX8_scaled 74 = .ok (.ifCond .ne 7, 3) := by decide +kernel
theorem dX8_scaled_77 : decode cX8_scaled 77 = .ok (.iconst 1, 1) := by decide +kernel
theorem dX8_scaled_78 : decode cX8_scaled 78 = .ok (.goto 4, 3) := by decide +kernel
theorem dX8_scaled_81 : decode cX8_scaled 81 = .ok (.iconst 0, 1) := by decide +kernel
theorem dX8_scaled_82 : decode cX8_scaled 82 = .ok (.istore_n 3, 1) := by decide +kernel
theorem dX8_scaled_83 : decode cX8_scaled 83 = .ok (.iinc 4 1, 3) := by decide +kernel
theorem dX8_scaled_86 : decode cX8_scaled 86 = .ok (.goto (-74), 3) := by decide +kernel
theorem dX8_scaled_89 : decode cX8_scaled 89 = .ok (.aload_n 0, 1) := by decide +kernel
theorem dX8_scaled_90 : decode cX8_scaled 90 = .ok (.iload_n 1, 1) := by decide +kernel
theorem dX8_scaled_91 : decode cX8_scaled 91 = .ok (.putfield 15, 3) := by decide +kernel
theorem dX8_scaled_94 : decode cX8_scaled 94 = .ok (.aload_n 0, 1) := by decide +kernel
theorem dX8_scaled_95 : decode cX8_scaled 95 = .ok (.getfield 218, 3) := by decide +kernel
theorem dX8_scaled_98 : decode cX8_scaled 98 = .ok (.ifCond .eq 10, 3) := by decide +kernel
theorem dX8_scaled_101 : decode cX8_scaled 101 = .ok (.bipush (-10), 2) := by decide +kernel
theorem dX8_scaled_103 : decode cX8_scaled 103 = .ok (.iload_n 2, 1) := by decide +kernel
theorem dX8_scaled_104 : decode cX8_scaled 104 = .ok (.isub, 1) := by decide +kernel
theorem dX8_scaled_105 : decode cX8_scaled 105 = .ok (.goto 4, 3) := by decide +kernel
theorem dX8_scaled_108 : decode cX8_scaled 108 = .ok (.iload_n 2, 1) := by decide +kernel
theorem dX8_scaled_109 : decode cX8_scaled 109 = .ok (.ireturn, 1) := by decide +kernel
theorem dX8_fresh_0 : decode cX8_fresh 0 = .ok (.aload_n 0, 1) := by decide +kernel
theorem dX8_fresh_1 : decode cX8_fresh 1 = .ok (.invokevirtual 161, 3) := by decide +kernel
theorem dX8_fresh_4 : decode cX8_fresh 4 = .ok (.aload_n 0, 1) := by decide +kernel
theorem dX8_fresh_5 : decode cX8_fresh 5 = .ok (.invokevirtual 88, 3) := by decide +kernel
theorem dX8_fresh_8 : decode cX8_fresh 8 = .ok (.ireturn, 1) := by decide +kernel
theorem dX8_leave_0 : decode cX8_leave 0 = .ok (.aload_n 0, 1) := by decide +kernel
theorem dX8_leave_1 : decode cX8_leave 1 = .ok (.iload_n 1, 1) := by decide +kernel
theorem dX8_leave_2 : decode cX8_leave 2 = .ok (.invokevirtual 96, 3) := by decide +kernel
theorem dX8_leave_5 : decode cX8_leave 5 = .ok (.ifCond .ne 5, 3) := by decide +kernel
theorem dX8_leave_8 : decode cX8_leave 8 = .ok (.iconst (-1), 1) := by decide +kernel
theorem dX8_leave_9 : decode cX8_leave 9 = .ok (.ireturn, 1) := by decide +kernel
theorem dX8_leave_10 : decode cX8_leave 10 = .ok (.aload_n 0, 1) := by decide +kernel
theorem dX8_leave_11 : decode cX8_leave 11 = .ok (.getfield 22, 3) := by decide +kernel
theorem dX8_leave_14 : decode cX8_leave 14 = .ok (.iload_n 1, 1) := by decide +kernel
theorem dX8_leave_15 : decode cX8_leave 15 = .ok (.iaload, 1) := by decide +kernel
theorem dX8_leave_16 : decode cX8_leave 16 = .ok (.istore_n 2, 1) := by decide +kernel
theorem dX8_leave_17 : decode cX8_leave 17 = .ok (.aload_n 0, 1) := by decide +kernel
theorem dX8_leave_18 : decode cX8_leave 18 = .ok (.iload_n 1, 1) := by decide +kernel
theorem dX8_leave_19 : decode cX8_leave 19 = .ok (.invokevirtual 155, 3) := by decide +kernel
theorem dX8_leave_22 : decode cX8_leave 22 = .ok (.iload_n 2, 1) := by decide +kernel
theorem dX8_leave_23 : decode cX8_leave 23 = .ok (.ifCond .ge 8, 3) := by decide +kernel
theorem dX8_leave_26 : decode cX8_leave 26 = .ok (.bipush (-3), 2) := by decide +kernel
theorem dX8_leave_28 : decode cX8_leave 28 = .ok (.goto 4, 3) := by decide +kernel
theorem dX8_leave_31 : decode cX8_leave 31 = .ok (.iload_n 2, 1) := by decide +kernel
theorem dX8_leave_32 : decode cX8_leave 32 = .ok (.ireturn, 1) := by decide +kernel
theorem dX8_of_0 : decode cX8_of 0 = .ok (.aload_n 0, 1) := by decide +kernel
theorem dX8_of_1 : decode cX8_of 1 = .ok (.iload_n 1, 1) := by decide +kernel
theorem dX8_of_2 : decode cX8_of 2 = .ok (.iload_n 2, 1) := by decide +kernel
theorem dX8_of_3 : decode cX8_of 3 = .ok (.invokevirtual 164, 3) := by decide +kernel
theorem dX8_of_6 : decode cX8_of 6 = .ok (.ifCond .eq 13, 3) := by decide +kernel
theorem dX8_of_9 : decode cX8_of 9 = .ok (.iload_n 3, 1) := by decide +kernel
theorem dX8_of_10 : decode cX8_of 10 = .ok (.i2l, 1) := by decide +kernel
theorem dX8_of_11 : decode cX8_of 11 = .ok (.lconst 0, 1) := by decide +kernel
theorem dX8_of_12 : decode cX8_of 12 = .ok (.lconst 1, 1) := by decide +kernel
theorem dX8_of_13 : decode cX8_of 13 = .ok (.invokestatic 92, 3) := by decide +kernel
theorem dX8_of_16 : decode cX8_of 16 = .ok (.ifCond .ne 7, 3) := by decide +kernel
theorem dX8_of_19 : decode cX8_of 19 = .ok (.ldc2_w 233, 3) := by decide +kernel
theorem dX8_of_22 : decode cX8_of 22 = .ok (.lreturn, 1) := by decide +kernel
theorem dX8_of_23 : decode cX8_of 23 = .ok (.aload_n 0, 1) := by decide +kernel
theorem dX8_of_24 : decode cX8_of 24 = .ok (.iload_n 1, 1) := by decide +kernel
theorem dX8_of_25 : decode cX8_of 25 = .ok (.iload_n 2, 1) := by decide +kernel
theorem dX8_of_26 : decode cX8_of 26 = .ok (.invokevirtual 138, 3) := by decide +kernel
theorem dX8_of_29 : decode cX8_of 29 = .ok (.ifCond .ne 17, 3) := by decide +kernel
theorem dX8_of_32 : decode cX8_of 32 = .ok (.iload_n 3, 1) := by decide +kernel
theorem dX8_of_33 : decode cX8_of 33 = .ok (.ifCond .ne 9, 3) := by decide +kernel
theorem dX8_of_36 : decode cX8_of 36 = .ok (.ldc2_w 235, 3) := by decide +kernel
theorem dX8_of_39 : decode cX8_of 39 = .ok (.goto 6, 3) := by decide +kernel
theorem dX8_of_42 : decode cX8_of 42 = .ok (.ldc2_w 233, 3) := by decide +kernel
theorem dX8_of_45 : decode cX8_of 45 = .ok (.lreturn, 1) := by decide +kernel
theorem dX8_of_46 : decode cX8_of 46 = .ok (.iload_n 3, 1) := by decide +kernel
theorem dX8_of_47 : decode cX8_of 47 = .ok (.ifCond .ne 18, 3) := by decide +kernel
theorem dX8_of_50 : decode cX8_of 50 = .ok (.aload_n 0, 1) := by decide +kernel
theorem dX8_of_51 : decode cX8_of 51 = .ok (.getfield 18, 3) := by decide +kernel
theorem dX8_of_54 : decode cX8_of 54 = .ok (.bipush 8, 2) := by decide +kernel
theorem dX8_of_56 : decode cX8_of 56 = .ok (.iload_n 1, 1) := by decide +kernel
theorem dX8_of_57 : decode cX8_of 57 = .ok (.imul, 1) := by decide +kernel
theorem dX8_of_58 : decode cX8_of 58 = .ok (.iload_n 2, 1) := by decide +kernel
theorem dX8_of_59 : decode cX8_of 59 = .ok (.iadd, 1) := by decide +kernel
theorem dX8_of_60 : decode cX8_of 60 = .ok (.iaload, 1) := by decide +kernel
theorem dX8_of_61 : decode cX8_of 61 = .ok (.i2l, 1) := by decide +kernel
theorem dX8_of_62 : decode cX8_of 62 = .ok (.goto 10, 3) := by decide +kernel
theorem dX8_of_65 : decode cX8_of 65 = .ok (.aload_n 0, 1) := by decide +kernel
theorem dX8_of_66 : decode cX8_of 66 = .ok (.iload_n 1, 1) := by decide +kernel
theorem dX8_of_67 : decode cX8_of 67 = .ok (.iload_n 2, 1) := by decide +kernel
theorem dX8_of_68 : decode cX8_of 68 = .ok (.invokevirtual 142, 3) := by decide +kernel
theorem dX8_of_71 : decode cX8_of 71 = .ok (.i2l, 1) := by decide +kernel
theorem dX8_of_72 : decode cX8_of 72 = .ok (.lreturn, 1) := by decide +kernel
theorem dX8_envy_0 : decode cX8_envy 0 = .ok (.aload_n 0, 1) := by decide +kernel
theorem dX8_envy_1 : decode cX8_envy 1 = .ok (.getfield 22, 3) := by decide +kernel
theorem dX8_envy_4 : decode cX8_envy 4 = .ok (.iload_n 1, 1) := by decide +kernel
theorem dX8_envy_5 : decode cX8_envy 5 = .ok (.iaload, 1) := by decide +kernel
theorem dX8_envy_6 : decode cX8_envy 6 = .ok (.ifCond .ge 7, 3) := by decide +kernel
theorem dX8_envy_9 : decode cX8_envy 9 = .ok (.iconst 0, 1) := by decide +kernel
theorem dX8_envy_10 : decode cX8_envy 10 = .ok (.goto 14, 3) := by decide +kernel
theorem dX8_envy_13 : decode cX8_envy 13 = .ok (.aload_n 0, 1) := by decide +kernel
theorem dX8_envy_14 : decode cX8_envy 14 = .ok (.iload_n 1, 1) := by decide +kernel
theorem dX8_envy_15 : decode cX8_envy 15 = .ok (.aload_n 0, 1) := by decide +kernel
theorem dX8_envy_16 : decode cX8_envy 16 = .ok (.getfield 22, 3) := by decide +kernel
theorem dX8_envy_19 : decode cX8_envy 19 = .ok (.iload_n 1, 1) := by decide +kernel
theorem dX8_envy_20 : decode cX8_envy 20 = .ok (.iaload, 1) := by decide +kernel
theorem dX8_envy_21 : decode cX8_envy 21 = .ok (.invokevirtual 142, 3) := by decide +kernel
theorem dX8_envy_24 : decode cX8_envy 24 = .ok (.istore_n 2, 1) := by decide +kernel
theorem dX8_envy_25 : decode cX8_envy 25 = .ok (.iconst 0, 1) := by decide +kernel
theorem dX8_envy_26 : decode cX8_envy 26 = .ok (.istore_n 3, 1) := by decide +kernel
theorem dX8_envy_27 : decode cX8_envy 27 = .ok (.iconst 0, 1) := by decide +kernel
theorem dX8_envy_28 : decode cX8_envy 28 = .ok (.istore 4, 2) := by decide +kernel
theorem dX8_envy_30 : decode cX8_envy 30 = .ok (.iload 4, 2) := by decide +kernel
theorem dX8_envy_32 : decode cX8_envy 32 = .ok (.aload_n 0, 1) := by decide +kernel
theorem dX8_envy_33 : decode cX8_envy 33 = .ok (.getfield 9, 3) := by decide +kernel
theorem dX8_envy_36 : decode cX8_envy 36 = .ok (.if_icmp .ge 38, 3) := by decide +kernel
theorem dX8_envy_39 : decode cX8_envy 39 = .ok (.iload_n 3, 1) := by decide +kernel
theorem dX8_envy_40 : decode cX8_envy 40 = .ok (.aload_n 0, 1) := by decide +kernel
theorem dX8_envy_41 : decode cX8_envy 41 = .ok (.iload_n 1, 1) := by decide +kernel
theorem dX8_envy_42 : decode cX8_envy 42 = .ok (.iload 4, 2) := by decide +kernel
theorem dX8_envy_44 : decode cX8_envy 44 = .ok (.invokevirtual 138, 3) := by decide +kernel
theorem dX8_envy_47 : decode cX8_envy 47 = .ok (.ifCond .eq 18, 3) := by decide +kernel
theorem dX8_envy_50 : decode cX8_envy 50 = .ok (.aload_n 0, 1) := by decide +kernel
theorem dX8_envy_51 : decode cX8_envy 51 = .ok (.iload_n 1, 1) := by decide +kernel
theorem dX8_envy_52 : decode cX8_envy 52 = .ok (.iload 4, 2) := by decide +kernel
theorem dX8_envy_54 : decode cX8_envy 54 = .ok (.invokevirtual 142, 3) := by decide +kernel
theorem dX8_envy_57 : decode cX8_envy 57 = .ok (.iload_n 2, 1) := by decide +kernel
theorem dX8_envy_58 : decode cX8_envy 58 = .ok (.if_icmp .le 7, 3) := by decide +kernel
theorem dX8_envy_61 : decode cX8_envy 61 = .ok (.iconst 1, 1) := by decide +kernel
theorem dX8_envy_62 : decode cX8_envy 62 = .ok (.goto 4, 3) := by decide +kernel
theorem dX8_envy_65 : decode cX8_envy 65 = .ok (.iconst 0, 1) := by decide +kernel
theorem dX8_envy_66 : decode cX8_envy 66 = .ok (.iadd, 1) := by decide +kernel
theorem dX8_envy_67 : decode cX8_envy 67 = .ok (.istore_n 3, 1) := by decide +kernel
theorem dX8_envy_68 : decode cX8_envy 68 = .ok (.iinc 4 1, 3) := by decide +kernel
theorem dX8_envy_71 : decode cX8_envy 71 = .ok (.goto (-41), 3) := by decide +kernel
theorem dX8_envy_74 : decode cX8_envy 74 = .ok (.iload_n 3, 1) := by decide +kernel
theorem dX8_envy_75 : decode cX8_envy 75 = .ok (.ireturn, 1) := by decide +kernel
theorem dX8_open_0 : decode cX8_open 0 = .ok (.iconst 0, 1) := by decide +kernel
theorem dX8_open_1 : decode cX8_open 1 = .ok (.istore_n 2, 1) := by decide +kernel
theorem dX8_open_2 : decode cX8_open 2 = .ok (.iconst 0, 1) := by decide +kernel
theorem dX8_open_3 : decode cX8_open 3 = .ok (.istore_n 3, 1) := by decide +kernel
theorem dX8_open_4 : decode cX8_open 4 = .ok (.iload_n 3, 1) := by decide +kernel
theorem dX8_open_5 : decode cX8_open 5 = .ok (.aload_n 0, 1) := by decide +kernel
theorem dX8_open_6 : decode cX8_open 6 = .ok (.getfield 9, 3) := by decide +kernel
theorem dX8_open_9 : decode cX8_open 9 = .ok (.if_icmp .ge 28, 3) := by decide +kernel
theorem dX8_open_12 : decode cX8_open 12 = .ok (.iload_n 2, 1) := by decide +kernel
theorem dX8_open_13 : decode cX8_open 13 = .ok (.aload_n 0, 1) := by decide +kernel
theorem dX8_open_14 : decode cX8_open 14 = .ok (.iload_n 1, 1) := by decide +kernel
theorem dX8_open_15 : decode cX8_open 15 = .ok (.iload_n 3, 1) := by decide +kernel
theorem dX8_open_16 : decode cX8_open 16 = .ok (.invokevirtual 138, 3) := by decide +kernel
theorem dX8_open_19 : decode cX8_open 19 = .ok (.ifCond .eq 9, 3) := by decide +kernel
theorem dX8_open_22 : decode cX8_open 22 = .ok (.iconst 1, 1) := by decide +kernel
theorem dX8_open_23 : decode cX8_open 23 = .ok (.iload_n 3, 1) := by decide +kernel
theorem dX8_open_24 : decode cX8_open 24 = .ok (.ishl, 1) := by decide +kernel
theorem dX8_open_25 : decode cX8_open 25 = .ok (.goto 4, 3) := by decide +kernel
theorem dX8_open_28 : decode cX8_open 28 = .ok (.iconst 0, 1) := by decide +kernel
theorem dX8_open_29 : decode cX8_open 29 = .ok (.ior, 1) := by decide +kernel
theorem dX8_open_30 : decode cX8_open 30 = .ok (.istore_n 2, 1) := by decide +kernel
theorem dX8_open_31 : decode cX8_open 31 = .ok (.iinc 3 1, 3) := by decide +kernel
theorem dX8_open_34 : decode cX8_open 34 = .ok (.goto (-30), 3) := by decide +kernel
theorem dX8_open_37 : decode cX8_open 37 = .ok (.iload_n 2, 1) := by decide +kernel
theorem dX8_open_38 : decode cX8_open 38 = .ok (.ireturn, 1) := by decide +kernel
theorem dX8_bits_0 : decode cX8_bits 0 = .ok (.iconst 0, 1) := by decide +kernel
theorem dX8_bits_1 : decode cX8_bits 1 = .ok (.istore_n 1, 1) := by decide +kernel
theorem dX8_bits_2 : decode cX8_bits 2 = .ok (.iconst 0, 1) := by decide +kernel
theorem dX8_bits_3 : decode cX8_bits 3 = .ok (.istore_n 2, 1) := by decide +kernel
theorem dX8_bits_4 : decode cX8_bits 4 = .ok (.iload_n 2, 1) := by decide +kernel
theorem dX8_bits_5 : decode cX8_bits 5 = .ok (.bipush 8, 2) := by decide +kernel
theorem dX8_bits_7 : decode cX8_bits 7 = .ok (.if_icmp .ge 17, 3) := by decide +kernel
theorem dX8_bits_10 : decode cX8_bits 10 = .ok (.iload_n 1, 1) := by decide +kernel
theorem dX8_bits_11 : decode cX8_bits 11 = .ok (.iload_n 0, 1) := by decide +kernel
theorem dX8_bits_12 : decode cX8_bits 12 = .ok (.iload_n 2, 1) := by decide +kernel
theorem dX8_bits_13 : decode cX8_bits 13 = .ok (.ishr, 1) := by decide +kernel
theorem dX8_bits_14 : decode cX8_bits 14 = .ok (.iconst 1, 1) := by decide +kernel
theorem dX8_bits_15 : decode cX8_bits 15 = .ok (.iand, 1) := by decide +kernel
theorem dX8_bits_16 : decode cX8_bits 16 = .ok (.iadd, 1) := by decide +kernel
theorem dX8_bits_17 : decode cX8_bits 17 = .ok (.istore_n 1, 1) := by decide +kernel
theorem dX8_bits_18 : decode cX8_bits 18 = .ok (.iinc 2 1, 3) := by decide +kernel
theorem dX8_bits_21 : decode cX8_bits 21 = .ok (.goto (-17), 3) := by decide +kernel
theorem dX8_bits_24 : decode cX8_bits 24 = .ok (.iload_n 1, 1) := by decide +kernel
theorem dX8_bits_25 : decode cX8_bits 25 = .ok (.ireturn, 1) := by decide +kernel
theorem dX8_person_0 : decode cX8_person 0 = .ok (.aload_n 0, 1) := by decide +kernel
theorem dX8_person_1 : decode cX8_person 1 = .ok (.iload_n 1, 1) := by decide +kernel
theorem dX8_person_2 : decode cX8_person 2 = .ok (.invokevirtual 96, 3) := by decide +kernel
theorem dX8_person_5 : decode cX8_person 5 = .ok (.ifCond .ne 5, 3) := by decide +kernel
theorem dX8_person_8 : decode cX8_person 8 = .ok (.iconst (-1), 1) := by decide +kernel
theorem dX8_person_9 : decode cX8_person 9 = .ok (.ireturn, 1) := by decide +kernel
theorem dX8_person_10 : decode cX8_person 10 = .ok (.iload_n 2, 1) := by decide +kernel
theorem dX8_person_11 : decode cX8_person 11 = .ok (.tableswitch 84 0 3 #[29, 50, 69, 75], 29) := by decide +kernel
theorem dX8_person_40 : decode cX8_person 40 = .ok (.aload_n 0, 1) := by decide +kernel
theorem dX8_person_41 : decode cX8_person 41 = .ok (.getfield 22, 3) := by decide +kernel
theorem dX8_person_44 : decode cX8_person 44 = .ok (.iload_n 1, 1) := by decide +kernel
theorem dX8_person_45 : decode cX8_person 45 = .ok (.iaload, 1) := by decide +kernel
theorem dX8_person_46 : decode cX8_person 46 = .ok (.ifCond .ge 8, 3) := by decide +kernel
theorem dX8_person_49 : decode cX8_person 49 = .ok (.bipush (-5), 2) := by decide +kernel
theorem dX8_person_51 : decode cX8_person 51 = .ok (.goto 9, 3) := by decide +kernel
theorem dX8_person_54 : decode cX8_person 54 = .ok (.aload_n 0, 1) := by decide +kernel
theorem dX8_person_55 : decode cX8_person 55 = .ok (.getfield 22, 3) := by decide +kernel
theorem dX8_person_58 : decode cX8_person 58 = .ok (.iload_n 1, 1) := by decide +kernel
theorem dX8_person_59 : decode cX8_person 59 = .ok (.iaload, 1) := by decide +kernel
theorem dX8_person_60 : decode cX8_person 60 = .ok (.ireturn, 1) := by decide +kernel
theorem dX8_person_61 : decode cX8_person 61 = .ok (.aload_n 0, 1) := by decide +kernel
theorem dX8_person_62 : decode cX8_person 62 = .ok (.iload_n 1, 1) := by decide +kernel
theorem dX8_person_63 : decode cX8_person 63 = .ok (.invokevirtual 146, 3) := by decide +kernel
theorem dX8_person_66 : decode cX8_person 66 = .ok (.ifCond .ge 8, 3) := by decide +kernel
theorem dX8_person_69 : decode cX8_person 69 = .ok (.bipush (-5), 2) := by decide +kernel
theorem dX8_person_71 : decode cX8_person 71 = .ok (.goto 8, 3) := by decide +kernel
theorem dX8_person_74 : decode cX8_person 74 = .ok (.aload_n 0, 1) := by decide +kernel
theorem dX8_person_75 : decode cX8_person 75 = .ok (.iload_n 1, 1) := by decide +kernel
theorem dX8_person_76 : decode cX8_person 76 = .ok (.invokevirtual 146, 3) := by decide +kernel
theorem dX8_person_79 : decode cX8_person 79 = .ok (.ireturn, 1) := by decide +kernel
theorem dX8_person_80 : decode cX8_person 80 = .ok (.aload_n 0, 1) := by decide +kernel
theorem dX8_person_81 : decode cX8_person 81 = .ok (.iload_n 1, 1) := by decide +kernel
theorem dX8_person_82 : decode cX8_person 82 = .ok (.invokevirtual 237, 3) := by decide +kernel
theorem dX8_person_85 : decode cX8_person 85 = .ok (.ireturn, 1) := by decide +kernel
theorem dX8_person_86 : decode cX8_person 86 = .ok (.aload_n 0, 1) := by decide +kernel
theorem dX8_person_87 : decode cX8_person 87 = .ok (.iload_n 1, 1) := by decide +kernel
theorem dX8_person_88 : decode cX8_person 88 = .ok (.invokevirtual 240, 3) := by decide +kernel
theorem dX8_person_91 : decode cX8_person 91 = .ok (.invokestatic 243, 3) := by decide +kernel
theorem dX8_person_94 : decode cX8_person 94 = .ok (.ireturn, 1) := by decide +kernel
theorem dX8_person_95 : decode cX8_person 95 = .ok (.iconst (-1), 1) := by decide +kernel
theorem dX8_person_96 : decode cX8_person 96 = .ok (.ireturn, 1) := by decide +kernel
theorem dX8_wanted_0 : decode cX8_wanted 0 = .ok (.iconst 0, 1) := by decide +kernel
theorem dX8_wanted_1 : decode cX8_wanted 1 = .ok (.istore_n 2, 1) := by decide +kernel
theorem dX8_wanted_2 : decode cX8_wanted 2 = .ok (.iconst 0, 1) := by decide +kernel
theorem dX8_wanted_3 : decode cX8_wanted 3 = .ok (.istore_n 3, 1) := by decide +kernel
theorem dX8_wanted_4 : decode cX8_wanted 4 = .ok (.iload_n 3, 1) := by decide +kernel
theorem dX8_wanted_5 : decode cX8_wanted 5 = .ok (.aload_n 0, 1) := by decide +kernel
theorem dX8_wanted_6 : decode cX8_wanted 6 = .ok (.getfield 9, 3) := by decide +kernel
theorem dX8_wanted_9 : decode cX8_wanted 9 = .ok (.if_icmp .ge 28, 3) := by decide +kernel
theorem dX8_wanted_12 : decode cX8_wanted 12 = .ok (.iload_n 2, 1) := by decide +kernel
theorem dX8_wanted_13 : decode cX8_wanted 13 = .ok (.aload_n 0, 1) := by decide +kernel
theorem dX8_wanted_14 : decode cX8_wanted 14 = .ok (.iload_n 3, 1) := by decide +kernel
theorem dX8_wanted_15 : decode cX8_wanted 15 = .ok (.invokevirtual 146, 3) := by decide +kernel
theorem dX8_wanted_18 : decode cX8_wanted 18 = .ok (.iload_n 1, 1) := by decide +kernel
theorem dX8_wanted_19 : decode cX8_wanted 19 = .ok (.if_icmp .ne 9, 3) := by decide +kernel
theorem dX8_wanted_22 : decode cX8_wanted 22 = .ok (.iconst 1, 1) := by decide +kernel
theorem dX8_wanted_23 : decode cX8_wanted 23 = .ok (.iload_n 3, 1) := by decide +kernel
theorem dX8_wanted_24 : decode cX8_wanted 24 = .ok (.ishl, 1) := by decide +kernel
theorem dX8_wanted_25 : decode cX8_wanted 25 = .ok (.goto 4, 3) := by decide +kernel
theorem dX8_wanted_28 : decode cX8_wanted 28 = .ok (.iconst 0, 1) := by decide +kernel
theorem dX8_wanted_29 : decode cX8_wanted 29 = .ok (.ior, 1) := by decide +kernel
theorem dX8_wanted_30 : decode cX8_wanted 30 = .ok (.istore_n 2, 1) := by decide +kernel
theorem dX8_wanted_31 : decode cX8_wanted 31 = .ok (.iinc 3 1, 3) := by decide +kernel
theorem dX8_wanted_34 : decode cX8_wanted 34 = .ok (.goto (-30), 3) := by decide +kernel
theorem dX8_wanted_37 : decode cX8_wanted 37 = .ok (.iload_n 2, 1) := by decide +kernel
theorem dX8_wanted_38 : decode cX8_wanted 38 = .ok (.ireturn, 1) := by decide +kernel
theorem dX8_thing_0 : decode cX8_thing 0 = .ok (.aload_n 0, 1) := by decide +kernel
theorem dX8_thing_1 : decode cX8_thing 1 = .ok (.iload_n 1, 1) := by decide +kernel
theorem dX8_thing_2 : decode cX8_thing 2 = .ok (.invokevirtual 96, 3) := by decide +kernel
theorem dX8_thing_5 : decode cX8_thing 5 = .ok (.ifCond .ne 5, 3) := by decide +kernel
theorem dX8_thing_8 : decode cX8_thing 8 = .ok (.iconst (-1), 1) := by decide +kernel
theorem dX8_thing_9 : decode cX8_thing 9 = .ok (.ireturn, 1) := by decide +kernel
theorem dX8_thing_10 : decode cX8_thing 10 = .ok (.iload_n 2, 1) := by decide +kernel
theorem dX8_thing_11 : decode cX8_thing 11 = .ok (.tableswitch 59 0 2 #[25, 32, 53], 25) := by decide +kernel
theorem dX8_thing_36 : decode cX8_thing 36 = .ok (.aload_n 0, 1) := by decide +kernel
theorem dX8_thing_37 : decode cX8_thing 37 = .ok (.getfield 28, 3) := by decide +kernel
theorem dX8_thing_40 : decode cX8_thing 40 = .ok (.iload_n 1, 1) := by decide +kernel
theorem dX8_thing_41 : decode cX8_thing 41 = .ok (.iaload, 1) := by decide +kernel
theorem dX8_thing_42 : decode cX8_thing 42 = .ok (.ireturn, 1) := by decide +kernel
theorem dX8_thing_43 : decode cX8_thing 43 = .ok (.aload_n 0, 1) := by decide +kernel
theorem dX8_thing_44 : decode cX8_thing 44 = .ok (.getfield 25, 3) := by decide +kernel
theorem dX8_thing_47 : decode cX8_thing 47 = .ok (.iload_n 1, 1) := by decide +kernel
theorem dX8_thing_48 : decode cX8_thing 48 = .ok (.iaload, 1) := by decide +kernel
theorem dX8_thing_49 : decode cX8_thing 49 = .ok (.ifCond .ge 8, 3) := by decide +kernel
theorem dX8_thing_52 : decode cX8_thing 52 = .ok (.bipush (-5), 2) := by decide +kernel
theorem dX8_thing_54 : decode cX8_thing 54 = .ok (.goto 9, 3) := by decide +kernel
theorem dX8_thing_57 : decode cX8_thing 57 = .ok (.aload_n 0, 1) := by decide +kernel
theorem dX8_thing_58 : decode cX8_thing 58 = .ok (.getfield 25, 3) := by decide +kernel
theorem dX8_thing_61 : decode cX8_thing 61 = .ok (.iload_n 1, 1) := by decide +kernel
theorem dX8_thing_62 : decode cX8_thing 62 = .ok (.iaload, 1) := by decide +kernel
theorem dX8_thing_63 : decode cX8_thing 63 = .ok (.ireturn, 1) := by decide +kernel
theorem dX8_thing_64 : decode cX8_thing 64 = .ok (.aload_n 0, 1) := by decide +kernel
theorem dX8_thing_65 : decode cX8_thing 65 = .ok (.iload_n 1, 1) := by decide +kernel
theorem dX8_thing_66 : decode cX8_thing 66 = .ok (.invokevirtual 246, 3) := by decide +kernel
theorem dX8_thing_69 : decode cX8_thing 69 = .ok (.ireturn, 1) := by decide +kernel
theorem dX8_thing_70 : decode cX8_thing 70 = .ok (.iconst (-1), 1) := by decide +kernel
theorem dX8_thing_71 : decode cX8_thing 71 = .ok (.ireturn, 1) := by decide +kernel
theorem dX8_sum_0 : decode cX8_sum 0 = .ok (.iconst 0, 1) := by decide +kernel
theorem dX8_sum_1 : decode cX8_sum 1 = .ok (.istore_n 1, 1) := by decide +kernel
theorem dX8_sum_2 : decode cX8_sum 2 = .ok (.iconst 0, 1) := by decide +kernel
theorem dX8_sum_3 : decode cX8_sum 3 = .ok (.istore_n 2, 1) := by decide +kernel
theorem dX8_sum_4 : decode cX8_sum 4 = .ok (.iload_n 2, 1) := by decide +kernel
theorem dX8_sum_5 : decode cX8_sum 5 = .ok (.aload_n 0, 1) := by decide +kernel
theorem dX8_sum_6 : decode cX8_sum 6 = .ok (.getfield 9, 3) := by decide +kernel
theorem dX8_sum_9 : decode cX8_sum 9 = .ok (.if_icmp .ge 41, 3) := by decide +kernel
theorem dX8_sum_12 : decode cX8_sum 12 = .ok (.iload_n 1, 1) := by decide +kernel
theorem dX8_sum_13 : decode cX8_sum 13 = .ok (.aload_n 0, 1) := by decide +kernel
theorem dX8_sum_14 : decode cX8_sum 14 = .ok (.getfield 22, 3) := by decide +kernel
theorem dX8_sum_17 : decode cX8_sum 17 = .ok (.iload_n 2, 1) := by decide +kernel
theorem dX8_sum_18 : decode cX8_sum 18 = .ok (.iaload, 1) := by decide +kernel
theorem dX8_sum_19 : decode cX8_sum 19 = .ok (.ifCond .ge 7, 3) := by decide +kernel
theorem dX8_sum_22 : decode cX8_sum 22 = .ok (.iconst 0, 1) := by decide +kernel
theorem dX8_sum_23 : decode cX8_sum 23 = .ok (.goto 19, 3) := by decide +kernel
theorem dX8_sum_26 : decode cX8_sum 26 = .ok (.aload_n 0, 1) := by decide +kernel
theorem dX8_sum_27 : decode cX8_sum 27 = .ok (.getfield 18, 3) := by decide +kernel
theorem dX8_sum_30 : decode cX8_sum 30 = .ok (.bipush 8, 2) := by decide +kernel
theorem dX8_sum_32 : decode cX8_sum 32 = .ok (.iload_n 2, 1) := by decide +kernel
theorem dX8_sum_33 : decode cX8_sum 33 = .ok (.imul, 1) := by decide +kernel
theorem dX8_sum_34 : decode cX8_sum 34 = .ok (.aload_n 0, 1) := by decide +kernel
theorem dX8_sum_35 : decode cX8_sum 35 = .ok (.getfield 22, 3) := by decide +kernel
theorem dX8_sum_38 : decode cX8_sum 38 = .ok (.iload_n 2, 1) := by decide +kernel
theorem dX8_sum_39 : decode cX8_sum 39 = .ok (.iaload, 1) := by decide +kernel
theorem dX8_sum_40 : decode cX8_sum 40 = .ok (.iadd, 1) := by decide +kernel
theorem dX8_sum_41 : decode cX8_sum 41 = .ok (.iaload, 1) := by decide +kernel
theorem dX8_sum_42 : decode cX8_sum 42 = .ok (.iadd, 1) := by decide +kernel
theorem dX8_sum_43 : decode cX8_sum 43 = .ok (.istore_n 1, 1) := by decide +kernel
theorem dX8_sum_44 : decode cX8_sum 44 = .ok (.iinc 2 1, 3) := by decide +kernel
theorem dX8_sum_47 : decode cX8_sum 47 = .ok (.goto (-43), 3) := by decide +kernel
theorem dX8_sum_50 : decode cX8_sum 50 = .ok (.iload_n 1, 1) := by decide +kernel
theorem dX8_sum_51 : decode cX8_sum 51 = .ok (.ireturn, 1) := by decide +kernel
theorem dX8_prices_0 : decode cX8_prices 0 = .ok (.iconst 0, 1) := by decide +kernel
theorem dX8_prices_1 : decode cX8_prices 1 = .ok (.istore_n 1, 1) := by decide +kernel
theorem dX8_prices_2 : decode cX8_prices 2 = .ok (.iconst 0, 1) := by decide +kernel
theorem dX8_prices_3 : decode cX8_prices 3 = .ok (.istore_n 2, 1) := by decide +kernel
theorem dX8_prices_4 : decode cX8_prices 4 = .ok (.iload_n 2, 1) := by decide +kernel
theorem dX8_prices_5 : decode cX8_prices 5 = .ok (.aload_n 0, 1) := by decide +kernel
theorem dX8_prices_6 : decode cX8_prices 6 = .ok (.getfield 9, 3) := by decide +kernel
theorem dX8_prices_9 : decode cX8_prices 9 = .ok (.if_icmp .ge 18, 3) := by decide +kernel
theorem dX8_prices_12 : decode cX8_prices 12 = .ok (.iload_n 1, 1) := by decide +kernel
theorem dX8_prices_13 : decode cX8_prices 13 = .ok (.aload_n 0, 1) := by decide +kernel
theorem dX8_prices_14 : decode cX8_prices 14 = .ok (.getfield 28, 3) := by decide +kernel
theorem dX8_prices_17 : decode cX8_prices 17 = .ok (.iload_n 2, 1) := by decide +kernel
theorem dX8_prices_18 : decode cX8_prices 18 = .ok (.iaload, 1) := by decide +kernel
theorem dX8_prices_19 : decode cX8_prices 19 = .ok (.iadd, 1) := by decide +kernel
theorem dX8_prices_20 : decode cX8_prices 20 = .ok (.istore_n 1, 1) := by decide +kernel
theorem dX8_prices_21 : decode cX8_prices 21 = .ok (.iinc 2 1, 3) := by decide +kernel
theorem dX8_prices_24 : decode cX8_prices 24 = .ok (.goto (-20), 3) := by decide +kernel
theorem dX8_prices_27 : decode cX8_prices 27 = .ok (.iload_n 1, 1) := by decide +kernel
theorem dX8_prices_28 : decode cX8_prices 28 = .ok (.ireturn, 1) := by decide +kernel
theorem dX8_most_0 : decode cX8_most 0 = .ok (.iconst 1, 1) := by decide +kernel
theorem dX8_most_1 : decode cX8_most 1 = .ok (.aload_n 0, 1) := by decide +kernel
theorem dX8_most_2 : decode cX8_most 2 = .ok (.getfield 9, 3) := by decide +kernel
theorem dX8_most_5 : decode cX8_most 5 = .ok (.ishl, 1) := by decide +kernel
theorem dX8_most_6 : decode cX8_most 6 = .ok (.iconst 1, 1) := by decide +kernel
theorem dX8_most_7 : decode cX8_most 7 = .ok (.isub, 1) := by decide +kernel
theorem dX8_most_8 : decode cX8_most 8 = .ok (.istore_n 1, 1) := by decide +kernel
theorem dX8_most_9 : decode cX8_most 9 = .ok (.iload_n 1, 1) := by decide +kernel
theorem dX8_most_10 : decode cX8_most 10 = .ok (.istore_n 2, 1) := by decide +kernel
theorem dX8_most_11 : decode cX8_most 11 = .ok (.iload_n 2, 1) := by decide +kernel
theorem dX8_most_12 : decode cX8_most 12 = .ok (.ifCond .lt 125, 3) := by decide +kernel
theorem dX8_most_15 : decode cX8_most 15 = .ok (.iload_n 2, 1) := by decide +kernel
theorem dX8_most_16 : decode cX8_most 16 = .ok (.invokestatic 243, 3) := by decide +kernel
theorem dX8_most_19 : decode cX8_most 19 = .ok (.istore_n 3, 1) := by decide +kernel
theorem dX8_most_20 : decode cX8_most 20 = .ok (.aload_n 0, 1) := by decide +kernel
theorem dX8_most_21 : decode cX8_most 21 = .ok (.getfield 70, 3) := by decide +kernel
theorem dX8_most_24 : decode cX8_most 24 = .ok (.iload_n 2, 1) := by decide +kernel
theorem dX8_most_25 : decode cX8_most 25 = .ok (.iload_n 2, 1) := by decide +kernel
theorem dX8_most_26 : decode cX8_most 26 = .ok (.iload_n 1, 1) := by decide +kernel
theorem dX8_most_27 : decode cX8_most 27 = .ok (.if_icmp .ne 7, 3) := by decide +kernel
theorem dX8_most_30 : decode cX8_most 30 = .ok (.iconst 0, 1) := by decide +kernel
theorem dX8_most_31 : decode cX8_most 31 = .ok (.goto 4, 3) := by decide +kernel
theorem dX8_most_34 : decode cX8_most 34 = .ok (.iconst (-1), 1) := by decide +kernel
theorem dX8_most_35 : decode cX8_most 35 = .ok (.iastore, 1) := by decide +kernel
theorem dX8_most_36 : decode cX8_most 36 = .ok (.iconst 0, 1) := by decide +kernel
theorem dX8_most_37 : decode cX8_most 37 = .ok (.istore 4, 2) := by decide +kernel
theorem dX8_most_39 : decode cX8_most 39 = .ok (.iload 4, 2) := by decide +kernel
theorem dX8_most_41 : decode cX8_most 41 = .ok (.aload_n 0, 1) := by decide +kernel
theorem dX8_most_42 : decode cX8_most 42 = .ok (.getfield 9, 3) := by decide +kernel
theorem dX8_most_45 : decode cX8_most 45 = .ok (.if_icmp .ge 86, 3) := by decide +kernel
theorem dX8_most_48 : decode cX8_most 48 = .ok (.iload_n 2, 1) := by decide +kernel
theorem dX8_most_49 : decode cX8_most 49 = .ok (.iload_n 1, 1) := by decide +kernel
theorem dX8_most_50 : decode cX8_most 50 = .ok (.if_icmp .eq 81, 3) := by decide +kernel
theorem dX8_most_53 : decode cX8_most 53 = .ok (.iload_n 2, 1) := by decide +kernel
theorem dX8_most_54 : decode cX8_most 54 = .ok (.iload 4, 2) := by decide +kernel
theorem dX8_most_56 : decode cX8_most 56 = .ok (.ishr, 1) := by decide +kernel
theorem dX8_most_57 : decode cX8_most 57 = .ok (.iconst 1, 1) := by decide +kernel
theorem dX8_most_58 : decode cX8_most 58 = .ok (.iand, 1) := by decide +kernel
theorem dX8_most_59 : decode cX8_most 59 = .ok (.ifCond .ne 66, 3) := by decide +kernel
theorem dX8_most_62 : decode cX8_most 62 = .ok (.aload_n 0, 1) := by decide +kernel
theorem dX8_most_63 : decode cX8_most 63 = .ok (.iload_n 3, 1) := by decide +kernel
theorem dX8_most_64 : decode cX8_most 64 = .ok (.iload 4, 2) := by decide +kernel
theorem dX8_most_66 : decode cX8_most 66 = .ok (.invokevirtual 138, 3) := by decide +kernel
theorem dX8_most_69 : decode cX8_most 69 = .ok (.ifCond .eq 56, 3) := by decide +kernel
theorem dX8_most_72 : decode cX8_most 72 = .ok (.aload_n 0, 1) := by decide +kernel
theorem dX8_most_73 : decode cX8_most 73 = .ok (.getfield 70, 3) := by decide +kernel
theorem dX8_most_76 : decode cX8_most 76 = .ok (.iload_n 2, 1) := by decide +kernel
theorem dX8_most_77 : decode cX8_most 77 = .ok (.iconst 1, 1) := by decide +kernel
theorem dX8_most_78 : decode cX8_most 78 = .ok (.iload 4, 2) := by decide +kernel
theorem dX8_most_80 : decode cX8_most 80 = .ok (.ishl, 1) := by decide +kernel
theorem dX8_most_81 : decode cX8_most 81 = .ok (.ior, 1) := by decide +kernel
theorem dX8_most_82 : decode cX8_most 82 = .ok (.iaload, 1) := by decide +kernel
theorem dX8_most_83 : decode cX8_most 83 = .ok (.ifCond .lt 42, 3) := by decide +kernel
theorem dX8_most_86 : decode cX8_most 86 = .ok (.aload_n 0, 1) := by decide +kernel
theorem dX8_most_87 : decode cX8_most 87 = .ok (.getfield 70, 3) := by decide +kernel
theorem dX8_most_90 : decode cX8_most 90 = .ok (.iload_n 2, 1) := by decide +kernel
theorem dX8_most_91 : decode cX8_most 91 = .ok (.aload_n 0, 1) := by decide +kernel
theorem dX8_most_92 : decode cX8_most 92 = .ok (.getfield 70, 3) := by decide +kernel
theorem dX8_most_95 : decode cX8_most 95 = .ok (.iload_n 2, 1) := by decide +kernel
theorem dX8_most_96 : decode cX8_most 96 = .ok (.iaload, 1) := by decide +kernel
theorem dX8_most_97 : decode cX8_most 97 = .ok (.aload_n 0, 1) := by decide +kernel
theorem dX8_most_98 : decode cX8_most 98 = .ok (.getfield 18, 3) := by decide +kernel
theorem dX8_most_101 : decode cX8_most 101 = .ok (.bipush 8, 2) := by decide +kernel
theorem dX8_most_103 : decode cX8_most 103 = .ok (.iload_n 3, 1) := by decide +kernel
theorem dX8_most_104 : decode cX8_most 104 = .ok (.imul, 1) := by decide +kernel
theorem dX8_most_105 : decode cX8_most 105 = .ok (.iload 4, 2) := by decide +kernel
theorem dX8_most_107 : decode cX8_most 107 = .ok (.iadd, 1) := by decide +kernel
theorem dX8_most_108 : decode cX8_most 108 = .ok (.iaload, 1) := by decide +kernel
theorem dX8_most_109 : decode cX8_most 109 = .ok (.aload_n 0, 1) := by decide +kernel
theorem dX8_most_110 : decode cX8_most 110 = .ok (.getfield 70, 3) := by decide +kernel
theorem dX8_most_113 : decode cX8_most 113 = .ok (.iload_n 2, 1) := by decide +kernel
theorem dX8_most_114 : decode cX8_most 114 = .ok (.iconst 1, 1) := by decide +kernel
theorem dX8_most_115 : decode cX8_most 115 = .ok (.iload 4, 2) := by decide +kernel
theorem dX8_most_117 : decode cX8_most 117 = .ok (.ishl, 1) := by decide +kernel
theorem dX8_most_118 : decode cX8_most 118 = .ok (.ior, 1) := by decide +kernel
theorem dX8_most_119 : decode cX8_most 119 = .ok (.iaload, 1) := by decide +kernel
theorem dX8_most_120 : decode cX8_most 120 = .ok (.iadd, 1) := by decide +kernel
theorem dX8_most_121 : decode cX8_most 121 = .ok (.invokestatic 249, 3) := by decide +kernel
theorem dX8_most_124 : decode cX8_most 124 = .ok (.iastore, 1) := by decide +kernel
theorem dX8_most_125 : decode cX8_most 125 = .ok (.iinc 4 1, 3) := by decide +kernel
theorem dX8_most_128 : decode cX8_most 128 = .ok (.goto (-89), 3) := by decide +kernel
theorem dX8_most_131 : decode cX8_most 131 = .ok (.iinc 2 (-1), 3) := by decide +kernel
theorem dX8_most_134 : decode cX8_most 134 = .ok (.goto (-123), 3) := by decide +kernel
theorem dX8_most_137 : decode cX8_most 137 = .ok (.aload_n 0, 1) := by decide +kernel
theorem dX8_most_138 : decode cX8_most 138 = .ok (.getfield 70, 3) := by decide +kernel
theorem dX8_most_141 : decode cX8_most 141 = .ok (.iconst 0, 1) := by decide +kernel
theorem dX8_most_142 : decode cX8_most 142 = .ok (.iaload, 1) := by decide +kernel
theorem dX8_most_143 : decode cX8_most 143 = .ok (.ifCond .ge 8, 3) := by decide +kernel
theorem dX8_most_146 : decode cX8_most 146 = .ok (.bipush (-5), 2) := by decide +kernel
theorem dX8_most_148 : decode cX8_most 148 = .ok (.goto 9, 3) := by decide +kernel
theorem dX8_most_151 : decode cX8_most 151 = .ok (.aload_n 0, 1) := by decide +kernel
theorem dX8_most_152 : decode cX8_most 152 = .ok (.getfield 70, 3) := by decide +kernel
theorem dX8_most_155 : decode cX8_most 155 = .ok (.iconst 0, 1) := by decide +kernel
theorem dX8_most_156 : decode cX8_most 156 = .ok (.iaload, 1) := by decide +kernel
theorem dX8_most_157 : decode cX8_most 157 = .ok (.ireturn, 1) := by decide +kernel
theorem dX8_sure_0 : decode cX8_sure 0 = .ok (.iconst 0, 1) := by decide +kernel
theorem dX8_sure_1 : decode cX8_sure 1 = .ok (.istore_n 1, 1) := by decide +kernel
theorem dX8_sure_2 : decode cX8_sure 2 = .ok (.iload_n 1, 1) := by decide +kernel
theorem dX8_sure_3 : decode cX8_sure 3 = .ok (.aload_n 0, 1) := by decide +kernel
theorem dX8_sure_4 : decode cX8_sure 4 = .ok (.getfield 9, 3) := by decide +kernel
theorem dX8_sure_7 : decode cX8_sure 7 = .ok (.if_icmp .ge 49, 3) := by decide +kernel
theorem dX8_sure_10 : decode cX8_sure 10 = .ok (.aload_n 0, 1) := by decide +kernel
theorem dX8_sure_11 : decode cX8_sure 11 = .ok (.getfield 22, 3) := by decide +kernel
theorem dX8_sure_14 : decode cX8_sure 14 = .ok (.iload_n 1, 1) := by decide +kernel
theorem dX8_sure_15 : decode cX8_sure 15 = .ok (.iaload, 1) := by decide +kernel
theorem dX8_sure_16 : decode cX8_sure 16 = .ok (.ifCond .lt 32, 3) := by decide +kernel
theorem dX8_sure_19 : decode cX8_sure 19 = .ok (.aload_n 0, 1) := by decide +kernel
theorem dX8_sure_20 : decode cX8_sure 20 = .ok (.iload_n 1, 1) := by decide +kernel
theorem dX8_sure_21 : decode cX8_sure 21 = .ok (.aload_n 0, 1) := by decide +kernel
theorem dX8_sure_22 : decode cX8_sure 22 = .ok (.iload_n 1, 1) := by decide +kernel
theorem dX8_sure_23 : decode cX8_sure 23 = .ok (.invokevirtual 146, 3) := by decide +kernel
theorem dX8_sure_26 : decode cX8_sure 26 = .ok (.invokevirtual 142, 3) := by decide +kernel
theorem dX8_sure_29 : decode cX8_sure 29 = .ok (.aload_n 0, 1) := by decide +kernel
theorem dX8_sure_30 : decode cX8_sure 30 = .ok (.iload_n 1, 1) := by decide +kernel
theorem dX8_sure_31 : decode cX8_sure 31 = .ok (.aload_n 0, 1) := by decide +kernel
theorem dX8_sure_32 : decode cX8_sure 32 = .ok (.getfield 22, 3) := by decide +kernel
theorem dX8_sure_35 : decode cX8_sure 35 = .ok (.iload_n 1, 1) := by decide +kernel
theorem dX8_sure_36 : decode cX8_sure 36 = .ok (.iaload, 1) := by decide +kernel
theorem dX8_sure_37 : decode cX8_sure 37 = .ok (.invokevirtual 142, 3) := by decide +kernel
theorem dX8_sure_40 : decode cX8_sure 40 = .ok (.aload_n 0, 1) := by decide +kernel
theorem dX8_sure_41 : decode cX8_sure 41 = .ok (.getfield 15, 3) := by decide +kernel
theorem dX8_sure_44 : decode cX8_sure 44 = .ok (.iadd, 1) := by decide +kernel
theorem dX8_sure_45 : decode cX8_sure 45 = .ok (.if_icmp .le 5, 3) := by decide +kernel
theorem dX8_sure_48 : decode cX8_sure 48 = .ok (.iconst 0, 1) := by decide +kernel
theorem dX8_sure_49 : decode cX8_sure 49 = .ok (.ireturn, 1) := by decide +kernel
theorem dX8_sure_50 : decode cX8_sure 50 = .ok (.iinc 1 1, 3) := by decide +kernel
theorem dX8_sure_53 : decode cX8_sure 53 = .ok (.goto (-51), 3) := by decide +kernel
theorem dX8_sure_56 : decode cX8_sure 56 = .ok (.iconst 1, 1) := by decide +kernel
theorem dX8_sure_57 : decode cX8_sure 57 = .ok (.ireturn, 1) := by decide +kernel
theorem dX8_lack_0 : decode cX8_lack 0 = .ok (.iconst 0, 1) := by decide +kernel
theorem dX8_lack_1 : decode cX8_lack 1 = .ok (.istore_n 1, 1) := by decide +kernel
theorem dX8_lack_2 : decode cX8_lack 2 = .ok (.iconst 1, 1) := by decide +kernel
theorem dX8_lack_3 : decode cX8_lack 3 = .ok (.aload_n 0, 1) := by decide +kernel
theorem dX8_lack_4 : decode cX8_lack 4 = .ok (.getfield 9, 3) := by decide +kernel
theorem dX8_lack_7 : decode cX8_lack 7 = .ok (.ishl, 1) := by decide +kernel
theorem dX8_lack_8 : decode cX8_lack 8 = .ok (.iconst 1, 1) := by decide +kernel
theorem dX8_lack_9 : decode cX8_lack 9 = .ok (.isub, 1) := by decide +kernel
theorem dX8_lack_10 : decode cX8_lack 10 = .ok (.istore_n 2, 1) := by decide +kernel
theorem dX8_lack_11 : decode cX8_lack 11 = .ok (.iload_n 2, 1) := by decide +kernel
theorem dX8_lack_12 : decode cX8_lack 12 = .ok (.ifCond .le 80, 3) := by decide +kernel
theorem dX8_lack_15 : decode cX8_lack 15 = .ok (.iconst 0, 1) := by decide +kernel
theorem dX8_lack_16 : decode cX8_lack 16 = .ok (.istore_n 3, 1) := by decide +kernel
theorem dX8_lack_17 : decode cX8_lack 17 = .ok (.iconst 0, 1) := by decide +kernel
theorem dX8_lack_18 : decode cX8_lack 18 = .ok (.istore 4, 2) := by decide +kernel
theorem dX8_lack_20 : decode cX8_lack 20 = .ok (.iload 4, 2) := by decide +kernel
theorem dX8_lack_22 : decode cX8_lack 22 = .ok (.aload_n 0, 1) := by decide +kernel
theorem dX8_lack_23 : decode cX8_lack 23 = .ok (.getfield 9, 3) := by decide +kernel
theorem dX8_lack_26 : decode cX8_lack 26 = .ok (.if_icmp .ge 32, 3) := by decide +kernel
theorem dX8_lack_29 : decode cX8_lack 29 = .ok (.iload_n 3, 1) := by decide +kernel
theorem dX8_lack_30 : decode cX8_lack 30 = .ok (.iload_n 2, 1) := by decide +kernel
theorem dX8_lack_31 : decode cX8_lack 31 = .ok (.iload 4, 2) := by decide +kernel
theorem dX8_lack_33 : decode cX8_lack 33 = .ok (.ishr, 1) := by decide +kernel
theorem dX8_lack_34 : decode cX8_lack 34 = .ok (.iconst 1, 1) := by decide +kernel
theorem dX8_lack_35 : decode cX8_lack 35 = .ok (.iand, 1) := by decide +kernel
theorem dX8_lack_36 : decode cX8_lack 36 = .ok (.iconst 1, 1) := by decide +kernel
theorem dX8_lack_37 : decode cX8_lack 37 = .ok (.if_icmp .ne 12, 3) := by decide +kernel
theorem dX8_lack_40 : decode cX8_lack 40 = .ok (.aload_n 0, 1) := by decide +kernel
theorem dX8_lack_41 : decode cX8_lack 41 = .ok (.iload 4, 2) := by decide +kernel
theorem dX8_lack_43 : decode cX8_lack 43 = .ok (.invokevirtual 240, 3) := by decide +kernel
theorem dX8_lack_46 : decode cX8_lack 46 = .ok (.goto 4, 3) := by decide +kernel
theorem dX8_lack_49 : decode cX8_lack 49 = .ok (.iconst 0, 1) := by decide +kernel
theorem dX8_lack_50 : decode cX8_lack 50 = .ok (.ior, 1) := by decide +kernel
theorem dX8_lack_51 : decode cX8_lack 51 = .ok (.istore_n 3, 1) := by decide +kernel
theorem dX8_lack_52 : decode cX8_lack 52 = .ok (.iinc 4 1, 3) := by decide +kernel
theorem dX8_lack_55 : decode cX8_lack 55 = .ok (.goto (-35), 3) := by decide +kernel
theorem dX8_lack_58 : decode cX8_lack 58 = .ok (.iload_n 3, 1) := by decide +kernel
theorem dX8_lack_59 : decode cX8_lack 59 = .ok (.invokestatic 243, 3) := by decide +kernel
theorem dX8_lack_62 : decode cX8_lack 62 = .ok (.iload_n 2, 1) := by decide +kernel
theorem dX8_lack_63 : decode cX8_lack 63 = .ok (.invokestatic 243, 3) := by decide +kernel
theorem dX8_lack_66 : decode cX8_lack 66 = .ok (.if_icmp .ge 20, 3) := by decide +kernel
theorem dX8_lack_69 : decode cX8_lack 69 = .ok (.iload_n 1, 1) := by decide +kernel
theorem dX8_lack_70 : decode cX8_lack 70 = .ok (.ifCond .eq 14, 3) := by decide +kernel
theorem dX8_lack_73 : decode cX8_lack 73 = .ok (.iload_n 2, 1) := by decide +kernel
theorem dX8_lack_74 : decode cX8_lack 74 = .ok (.invokestatic 243, 3) := by decide +kernel
theorem dX8_lack_77 : decode cX8_lack 77 = .ok (.iload_n 1, 1) := by decide +kernel
theorem dX8_lack_78 : decode cX8_lack 78 = .ok (.invokestatic 243, 3) := by decide +kernel
theorem dX8_lack_81 : decode cX8_lack 81 = .ok (.if_icmp .gt 5, 3) := by decide +kernel
theorem dX8_lack_84 : decode cX8_lack 84 = .ok (.iload_n 2, 1) := by decide +kernel
theorem dX8_lack_85 : decode cX8_lack 85 = .ok (.istore_n 1, 1) := by decide +kernel
theorem dX8_lack_86 : decode cX8_lack 86 = .ok (.iinc 2 (-1), 3) := by decide +kernel
theorem dX8_lack_89 : decode cX8_lack 89 = .ok (.goto (-78), 3) := by decide +kernel
theorem dX8_lack_92 : decode cX8_lack 92 = .ok (.iload_n 1, 1) := by decide +kernel
theorem dX8_lack_93 : decode cX8_lack 93 = .ok (.ireturn, 1) := by decide +kernel
theorem dX8_havers_0 : decode cX8_havers 0 = .ok (.iconst 0, 1) := by decide +kernel
theorem dX8_havers_1 : decode cX8_havers 1 = .ok (.istore_n 1, 1) := by decide +kernel
theorem dX8_havers_2 : decode cX8_havers 2 = .ok (.iconst 0, 1) := by decide +kernel
theorem dX8_havers_3 : decode cX8_havers 3 = .ok (.istore_n 2, 1) := by decide +kernel
theorem dX8_havers_4 : decode cX8_havers 4 = .ok (.iload_n 2, 1) := by decide +kernel
theorem dX8_havers_5 : decode cX8_havers 5 = .ok (.aload_n 0, 1) := by decide +kernel
theorem dX8_havers_6 : decode cX8_havers 6 = .ok (.getfield 9, 3) := by decide +kernel
theorem dX8_havers_9 : decode cX8_havers 9 = .ok (.if_icmp .ge 26, 3) := by decide +kernel
theorem dX8_havers_12 : decode cX8_havers 12 = .ok (.iload_n 1, 1) := by decide +kernel
theorem dX8_havers_13 : decode cX8_havers 13 = .ok (.aload_n 0, 1) := by decide +kernel
theorem dX8_havers_14 : decode cX8_havers 14 = .ok (.getfield 22, 3) := by decide +kernel
theorem dX8_havers_17 : decode cX8_havers 17 = .ok (.iload_n 2, 1) := by decide +kernel
theorem dX8_havers_18 : decode cX8_havers 18 = .ok (.iaload, 1) := by decide +kernel
theorem dX8_havers_19 : decode cX8_havers 19 = .ok (.ifCond .ge 7, 3) := by decide +kernel
theorem dX8_havers_22 : decode cX8_havers 22 = .ok (.iconst 0, 1) := by decide +kernel
theorem dX8_havers_23 : decode cX8_havers 23 = .ok (.goto 4, 3) := by decide +kernel
theorem dX8_havers_26 : decode cX8_havers 26 = .ok (.iconst 1, 1) := by decide +kernel
theorem dX8_havers_27 : decode cX8_havers 27 = .ok (.iadd, 1) := by decide +kernel
theorem dX8_havers_28 : decode cX8_havers 28 = .ok (.istore_n 1, 1) := by decide +kernel
theorem dX8_havers_29 : decode cX8_havers 29 = .ok (.iinc 2 1, 3) := by decide +kernel
theorem dX8_havers_32 : decode cX8_havers 32 = .ok (.goto (-28), 3) := by decide +kernel
theorem dX8_havers_35 : decode cX8_havers 35 = .ok (.iload_n 1, 1) := by decide +kernel
theorem dX8_havers_36 : decode cX8_havers 36 = .ok (.ireturn, 1) := by decide +kernel
theorem dX8_told_0 : decode cX8_told 0 = .ok (.iload_n 1, 1) := by decide +kernel
theorem dX8_told_1 : decode cX8_told 1 = .ok (.tableswitch 133 0 9 #[55, 60, 65, 70, 75, 80, 85, 102, 123, 128], 55) := by decide +kernel
theorem dX8_told_56 : decode cX8_told 56 = .ok (.aload_n 0, 1) := by decide +kernel
theorem dX8_told_57 : decode cX8_told 57 = .ok (.getfield 9, 3) := by decide +kernel
theorem dX8_told_60 : decode cX8_told 60 = .ok (.ireturn, 1) := by decide +kernel
theorem dX8_told_61 : decode cX8_told 61 = .ok (.aload_n 0, 1) := by decide +kernel
theorem dX8_told_62 : decode cX8_told 62 = .ok (.getfield 15, 3) := by decide +kernel
theorem dX8_told_65 : decode cX8_told 65 = .ok (.ireturn, 1) := by decide +kernel
theorem dX8_told_66 : decode cX8_told 66 = .ok (.aload_n 0, 1) := by decide +kernel
theorem dX8_told_67 : decode cX8_told 67 = .ok (.invokevirtual 254, 3) := by decide +kernel
theorem dX8_told_70 : decode cX8_told 70 = .ok (.ireturn, 1) := by decide +kernel
theorem dX8_told_71 : decode cX8_told 71 = .ok (.aload_n 0, 1) := by decide +kernel
theorem dX8_told_72 : decode cX8_told 72 = .ok (.invokevirtual 257, 3) := by decide +kernel
theorem dX8_told_75 : decode cX8_told 75 = .ok (.ireturn, 1) := by decide +kernel
theorem dX8_told_76 : decode cX8_told 76 = .ok (.aload_n 0, 1) := by decide +kernel
theorem dX8_told_77 : decode cX8_told 77 = .ok (.invokevirtual 260, 3) := by decide +kernel
theorem dX8_told_80 : decode cX8_told 80 = .ok (.ireturn, 1) := by decide +kernel
theorem dX8_told_81 : decode cX8_told 81 = .ok (.aload_n 0, 1) := by decide +kernel
theorem dX8_told_82 : decode cX8_told 82 = .ok (.invokevirtual 263, 3) := by decide +kernel
theorem dX8_told_85 : decode cX8_told 85 = .ok (.ireturn, 1) := by decide +kernel
theorem dX8_told_86 : decode cX8_told 86 = .ok (.aload_n 0, 1) := by decide +kernel
theorem dX8_told_87 : decode cX8_told 87 = .ok (.invokevirtual 221, 3) := by decide +kernel
theorem dX8_told_90 : decode cX8_told 90 = .ok (.ifCond .ge 8, 3) := by decide +kernel
theorem dX8_told_93 : decode cX8_told 93 = .ok (.bipush (-5), 2) := by decide +kernel
theorem dX8_told_95 : decode cX8_told 95 = .ok (.goto 7, 3) := by decide +kernel
theorem dX8_told_98 : decode cX8_told 98 = .ok (.aload_n 0, 1) := by decide +kernel
theorem dX8_told_99 : decode cX8_told 99 = .ok (.invokevirtual 221, 3) := by decide +kernel
theorem dX8_told_102 : decode cX8_told 102 = .ok (.ireturn, 1) := by decide +kernel
theorem dX8_told_103 : decode cX8_told 103 = .ok (.aload_n 0, 1) := by decide +kernel
theorem dX8_told_104 : decode cX8_told 104 = .ok (.invokevirtual 221, 3) := by decide +kernel
theorem dX8_told_107 : decode cX8_told 107 = .ok (.ifCond .ge 8, 3) := by decide +kernel
theorem dX8_told_110 : decode cX8_told 110 = .ok (.bipush (-5), 2) := by decide +kernel
theorem dX8_told_112 : decode cX8_told 112 = .ok (.goto 11, 3) := by decide +kernel
theorem dX8_told_115 : decode cX8_told 115 = .ok (.aload_n 0, 1) := by decide +kernel
theorem dX8_told_116 : decode cX8_told 116 = .ok (.aload_n 0, 1) := by decide +kernel
theorem dX8_told_117 : decode cX8_told 117 = .ok (.invokevirtual 221, 3) := by decide +kernel
theorem dX8_told_120 : decode cX8_told 120 = .ok (.invokevirtual 152, 3) := by decide +kernel
theorem dX8_told_123 : decode cX8_told 123 = .ok (.ireturn, 1) := by decide +kernel
theorem dX8_told_124 : decode cX8_told 124 = .ok (.aload_n 0, 1) := by decide +kernel
theorem dX8_told_125 : decode cX8_told 125 = .ok (.invokevirtual 266, 3) := by decide +kernel
theorem dX8_told_128 : decode cX8_told 128 = .ok (.ireturn, 1) := by decide +kernel
theorem dX8_told_129 : decode cX8_told 129 = .ok (.aload_n 0, 1) := by decide +kernel
theorem dX8_told_130 : decode cX8_told 130 = .ok (.invokevirtual 269, 3) := by decide +kernel
theorem dX8_told_133 : decode cX8_told 133 = .ok (.ireturn, 1) := by decide +kernel
theorem dX8_told_134 : decode cX8_told 134 = .ok (.iconst (-1), 1) := by decide +kernel
theorem dX8_told_135 : decode cX8_told 135 = .ok (.ireturn, 1) := by decide +kernel
theorem dX8_see_0 : decode cX8_see 0 = .ok (.iload_n 1, 1) := by decide +kernel
theorem dX8_see_1 : decode cX8_see 1 = .ok (.iconst (-1), 1) := by decide +kernel
theorem dX8_see_2 : decode cX8_see 2 = .ok (.if_icmp .ne 10, 3) := by decide +kernel
theorem dX8_see_5 : decode cX8_see 5 = .ok (.aload_n 0, 1) := by decide +kernel
theorem dX8_see_6 : decode cX8_see 6 = .ok (.iconst 0, 1) := by decide +kernel
theorem dX8_see_7 : decode cX8_see 7 = .ok (.putfield 111, 3) := by decide +kernel
theorem dX8_see_10 : decode cX8_see 10 = .ok (.iconst 0, 1) := by decide +kernel
theorem dX8_see_11 : decode cX8_see 11 = .ok (.ireturn, 1) := by decide +kernel
theorem dX8_see_12 : decode cX8_see 12 = .ok (.aload_n 0, 1) := by decide +kernel
theorem dX8_see_13 : decode cX8_see 13 = .ok (.iload_n 1, 1) := by decide +kernel
theorem dX8_see_14 : decode cX8_see 14 = .ok (.iload_n 2, 1) := by decide +kernel
theorem dX8_see_15 : decode cX8_see 15 = .ok (.invokevirtual 164, 3) := by decide +kernel
theorem dX8_see_18 : decode cX8_see 18 = .ok (.ifCond .ne 5, 3) := by decide +kernel
theorem dX8_see_21 : decode cX8_see 21 = .ok (.iconst (-1), 1) := by decide +kernel
theorem dX8_see_22 : decode cX8_see 22 = .ok (.ireturn, 1) := by decide +kernel
theorem dX8_see_23 : decode cX8_see 23 = .ok (.aload_n 0, 1) := by decide +kernel
theorem dX8_see_24 : decode cX8_see 24 = .ok (.getfield 111, 3) := by decide +kernel
theorem dX8_see_27 : decode cX8_see 27 = .ok (.iconst 5, 1) := by decide +kernel
theorem dX8_see_28 : decode cX8_see 28 = .ok (.if_icmp .ne 6, 3) := by decide +kernel
theorem dX8_see_31 : decode cX8_see 31 = .ok (.bipush (-4), 2) := by decide +kernel
theorem dX8_see_33 : decode cX8_see 33 = .ok (.ireturn, 1) := by decide +kernel
theorem dX8_see_34 : decode cX8_see 34 = .ok (.aload_n 0, 1) := by decide +kernel
theorem dX8_see_35 : decode cX8_see 35 = .ok (.getfield 31, 3) := by decide +kernel
theorem dX8_see_38 : decode cX8_see 38 = .ok (.aload_n 0, 1) := by decide +kernel
theorem dX8_see_39 : decode cX8_see 39 = .ok (.getfield 111, 3) := by decide +kernel
theorem dX8_see_42 : decode cX8_see 42 = .ok (.iload_n 1, 1) := by decide +kernel
theorem dX8_see_43 : decode cX8_see 43 = .ok (.iastore, 1) := by decide +kernel
theorem dX8_see_44 : decode cX8_see 44 = .ok (.aload_n 0, 1) := by decide +kernel
theorem dX8_see_45 : decode cX8_see 45 = .ok (.getfield 34, 3) := by decide +kernel
theorem dX8_see_48 : decode cX8_see 48 = .ok (.aload_n 0, 1) := by decide +kernel
theorem dX8_see_49 : decode cX8_see 49 = .ok (.getfield 111, 3) := by decide +kernel
theorem dX8_see_52 : decode cX8_see 52 = .ok (.iload_n 2, 1) := by decide +kernel
theorem dX8_see_53 : decode cX8_see 53 = .ok (.iastore, 1) := by decide +kernel
theorem dX8_see_54 : decode cX8_see 54 = .ok (.aload_n 0, 1) := by decide +kernel
theorem dX8_see_55 : decode cX8_see 55 = .ok (.dup, 1) := by decide +kernel
theorem dX8_see_56 : decode cX8_see 56 = .ok (.getfield 111, 3) := by decide +kernel
theorem dX8_see_59 : decode cX8_see 59 = .ok (.iconst 1, 1) := by decide +kernel
theorem dX8_see_60 : decode cX8_see 60 = .ok (.iadd, 1) := by decide +kernel
theorem dX8_see_61 : decode cX8_see 61 = .ok (.putfield 111, 3) := by decide +kernel
theorem dX8_see_64 : decode cX8_see 64 = .ok (.aload_n 0, 1) := by decide +kernel
theorem dX8_see_65 : decode cX8_see 65 = .ok (.getfield 111, 3) := by decide +kernel
theorem dX8_see_68 : decode cX8_see 68 = .ok (.ireturn, 1) := by decide +kernel
theorem dX8_isAllSeen_0 : decode cX8_isAllSeen 0 = .ok (.iconst 0, 1) := by decide +kernel
theorem dX8_isAllSeen_1 : decode cX8_isAllSeen 1 = .ok (.istore_n 1, 1) := by decide +kernel
theorem dX8_isAllSeen_2 : decode cX8_isAllSeen 2 = .ok (.iload_n 1, 1) := by decide +kernel
theorem dX8_isAllSeen_3 : decode cX8_isAllSeen 3 = .ok (.aload_n 0, 1) := by decide +kernel
theorem dX8_isAllSeen_4 : decode cX8_isAllSeen 4 = .ok (.getfield 111, 3) := by decide +kernel
theorem dX8_isAllSeen_7 : decode cX8_isAllSeen 7 = .ok (.if_icmp .ge 31, 3) := by decide +kernel
theorem dX8_isAllSeen_10 : decode cX8_isAllSeen 10 = .ok (.aload_n 0, 1) := by decide +kernel
theorem dX8_isAllSeen_11 : decode cX8_isAllSeen 11 = .ok (.getfield 22, 3) := by decide +kernel
theorem dX8_isAllSeen_14 : decode cX8_isAllSeen 14 = .ok (.aload_n 0, 1) := by decide +kernel
theorem dX8_isAllSeen_15 : decode cX8_isAllSeen 15 = .ok (.getfield 31, 3) := by decide +kernel
theorem dX8_isAllSeen_18 : decode cX8_isAllSeen 18 = .ok (.iload_n 1, 1) := by decide +kernel
theorem dX8_isAllSeen_19 : decode cX8_isAllSeen 19 = .ok (.iaload, 1) := by decide +kernel
theorem dX8_isAllSeen_20 : decode cX8_isAllSeen 20 = .ok (.iaload, 1) := by decide +kernel
theorem dX8_isAllSeen_21 : decode cX8_isAllSeen 21 = .ok (.aload_n 0, 1) := by decide +kernel
theorem dX8_isAllSeen_22 : decode cX8_isAllSeen 22 = .ok (.getfield 34, 3) := by decide +kernel
theorem dX8_isAllSeen_25 : decode cX8_isAllSeen 25 = .ok (.iload_n 1, 1) := by decide +kernel
theorem dX8_isAllSeen_26 : decode cX8_isAllSeen 26 = .ok (.iaload, 1) := by decide +kernel
theorem dX8_isAllSeen_27 : decode cX8_isAllSeen 27 = .ok (.if_icmp .eq 5, 3) := by decide +kernel
theorem dX8_isAllSeen_30 : decode cX8_isAllSeen 30 = .ok (.iconst 0, 1) := by decide +kernel
theorem dX8_isAllSeen_31 : decode cX8_isAllSeen 31 = .ok (.ireturn, 1) := by decide +kernel
theorem dX8_isAllSeen_32 : decode cX8_isAllSeen 32 = .ok (.iinc 1 1, 3) := by decide +kernel
theorem dX8_isAllSeen_35 : decode cX8_isAllSeen 35 = .ok (.goto (-33), 3) := by decide +kernel
theorem dX8_isAllSeen_38 : decode cX8_isAllSeen 38 = .ok (.iconst 1, 1) := by decide +kernel
theorem dX8_isAllSeen_39 : decode cX8_isAllSeen 39 = .ok (.ireturn, 1) := by decide +kernel
theorem dX8_triesAuction_0 : decode cX8_triesAuction 0 = .ok (.aload_n 0, 1) := by decide +kernel
theorem dX8_triesAuction_1 : decode cX8_triesAuction 1 = .ok (.invokevirtual 88, 3) := by decide +kernel
theorem dX8_triesAuction_4 : decode cX8_triesAuction 4 = .ok (.pop, 1) := by decide +kernel
theorem dX8_triesAuction_5 : decode cX8_triesAuction 5 = .ok (.aload_n 0, 1) := by decide +kernel
theorem dX8_triesAuction_6 : decode cX8_triesAuction 6 = .ok (.invokevirtual 161, 3) := by decide +kernel
theorem dX8_triesAuction_9 : decode cX8_triesAuction 9 = .ok (.aload_n 0, 1) := by decide +kernel
theorem dX8_triesAuction_10 : decode cX8_triesAuction 10 = .ok (.invokevirtual 230, 3) := by decide +kernel
theorem dX8_triesAuction_13 : decode cX8_triesAuction 13 = .ok (.pop, 1) := by decide +kernel
theorem dX8_triesAuction_14 : decode cX8_triesAuction 14 = .ok (.return_, 1) := by decide +kernel
theorem dX8_fits_0 : decode cX8_fits 0 = .ok (.aload_n 0, 1) := by decide +kernel
theorem dX8_fits_1 : decode cX8_fits 1 = .ok (.iload_n 1, 1) := by decide +kernel
theorem dX8_fits_2 : decode cX8_fits 2 = .ok (.iload_n 2, 1) := by decide +kernel
theorem dX8_fits_3 : decode cX8_fits 3 = .ok (.invokevirtual 164, 3) := by decide +kernel
theorem dX8_fits_6 : decode cX8_fits 6 = .ok (.ifCond .eq 13, 3) := by decide +kernel
theorem dX8_fits_9 : decode cX8_fits 9 = .ok (.iload_n 3, 1) := by decide +kernel
theorem dX8_fits_10 : decode cX8_fits 10 = .ok (.i2l, 1) := by decide +kernel
theorem dX8_fits_11 : decode cX8_fits 11 = .ok (.lconst 0, 1) := by decide +kernel
theorem dX8_fits_12 : decode cX8_fits 12 = .ok (.lconst 1, 1) := by decide +kernel
theorem dX8_fits_13 : decode cX8_fits 13 = .ok (.invokestatic 92, 3) := by decide +kernel
theorem dX8_fits_16 : decode cX8_fits 16 = .ok (.ifCond .ne 5, 3) := by decide +kernel
theorem dX8_fits_19 : decode cX8_fits 19 = .ok (.iconst (-1), 1) := by decide +kernel
theorem dX8_fits_20 : decode cX8_fits 20 = .ok (.ireturn, 1) := by decide +kernel
theorem dX8_fits_21 : decode cX8_fits 21 = .ok (.aload_n 0, 1) := by decide +kernel
theorem dX8_fits_22 : decode cX8_fits 22 = .ok (.getfield 18, 3) := by decide +kernel
theorem dX8_fits_25 : decode cX8_fits 25 = .ok (.bipush 8, 2) := by decide +kernel
theorem dX8_fits_27 : decode cX8_fits 27 = .ok (.iload_n 1, 1) := by decide +kernel
theorem dX8_fits_28 : decode cX8_fits 28 = .ok (.imul, 1) := by decide +kernel
theorem dX8_fits_29 : decode cX8_fits 29 = .ok (.iload_n 2, 1) := by decide +kernel
theorem dX8_fits_30 : decode cX8_fits 30 = .ok (.iadd, 1) := by decide +kernel
theorem dX8_fits_31 : decode cX8_fits 31 = .ok (.iaload, 1) := by decide +kernel
theorem dX8_fits_32 : decode cX8_fits 32 = .ok (.istore 4, 2) := by decide +kernel
theorem dX8_fits_34 : decode cX8_fits 34 = .ok (.iconst 0, 1) := by decide +kernel
theorem dX8_fits_35 : decode cX8_fits 35 = .ok (.istore 5, 2) := by decide +kernel
theorem dX8_fits_37 : decode cX8_fits 37 = .ok (.bipush (-5), 2) := by decide +kernel
theorem dX8_fits_39 : decode cX8_fits 39 = .ok (.istore 6, 2) := by decide +kernel
theorem dX8_fits_41 : decode cX8_fits 41 = .ok (.aload_n 0, 1) := by decide +kernel
theorem dX8_fits_42 : decode cX8_fits 42 = .ok (.invokevirtual 272, 3) := by decide +kernel
theorem dX8_fits_45 : decode cX8_fits 45 = .ok (.bipush 90, 2) := by decide +kernel
theorem dX8_fits_47 : decode cX8_fits 47 = .ok (.istore 7, 2) := by decide +kernel
theorem dX8_fits_49 : decode cX8_fits 49 = .ok (.iload 7, 2) := by decide +kernel
theorem dX8_fits_51 : decode cX8_fits 51 = .ok (.ifCond .lt 59, 3) := by decide +kernel
theorem dX8_fits_54 : decode cX8_fits 54 = .ok (.aload_n 0, 1) := by decide +kernel
theorem dX8_fits_55 : decode cX8_fits 55 = .ok (.getfield 18, 3) := by decide +kernel
theorem dX8_fits_58 : decode cX8_fits 58 = .ok (.bipush 8, 2) := by decide +kernel
theorem dX8_fits_60 : decode cX8_fits 60 = .ok (.iload_n 1, 1) := by decide +kernel
theorem dX8_fits_61 : decode cX8_fits 61 = .ok (.imul, 1) := by decide +kernel
theorem dX8_fits_62 : decode cX8_fits 62 = .ok (.iload_n 2, 1) := by decide +kernel
theorem dX8_fits_63 : decode cX8_fits 63 = .ok (.iadd, 1) := by decide +kernel
theorem dX8_fits_64 : decode cX8_fits 64 = .ok (.iload 7, 2) := by decide +kernel
theorem dX8_fits_66 : decode cX8_fits 66 = .ok (.iastore, 1) := by decide +kernel
theorem dX8_fits_67 : decode cX8_fits 67 = .ok (.aload_n 0, 1) := by decide +kernel
theorem dX8_fits_68 : decode cX8_fits 68 = .ok (.invokevirtual 275, 3) := by decide +kernel
theorem dX8_fits_71 : decode cX8_fits 71 = .ok (.iload 5, 2) := by decide +kernel
theorem dX8_fits_73 : decode cX8_fits 73 = .ok (.aload_n 0, 1) := by decide +kernel
theorem dX8_fits_74 : decode cX8_fits 74 = .ok (.invokevirtual 278, 3) := by decide +kernel
theorem dX8_fits_77 : decode cX8_fits 77 = .ok (.ifCond .eq 7, 3) := by decide +kernel
theorem dX8_fits_80 : decode cX8_fits 80 = .ok (.iconst 1, 1) := by decide +kernel
theorem dX8_fits_81 : decode cX8_fits 81 = .ok (.goto 4, 3) := by decide +kernel
theorem dX8_fits_84 : decode cX8_fits 84 = .ok (.iconst 0, 1) := by decide +kernel
theorem dX8_fits_85 : decode cX8_fits 85 = .ok (.iadd, 1) := by decide +kernel
theorem dX8_fits_86 : decode cX8_fits 86 = .ok (.istore 5, 2) := by decide +kernel
theorem dX8_fits_88 : decode cX8_fits 88 = .ok (.aload_n 0, 1) := by decide +kernel
theorem dX8_fits_89 : decode cX8_fits 89 = .ok (.invokevirtual 278, 3) := by decide +kernel
theorem dX8_fits_92 : decode cX8_fits 92 = .ok (.ifCond .eq 8, 3) := by decide +kernel
theorem dX8_fits_95 : decode cX8_fits 95 = .ok (.iload 7, 2) := by decide +kernel
theorem dX8_fits_97 : decode cX8_fits 97 = .ok (.goto 5, 3) := by decide +kernel
theorem dX8_fits_100 : decode cX8_fits 100 = .ok (.iload 6, 2) := by decide +kernel
theorem dX8_fits_102 : decode cX8_fits 102 = .ok (.istore 6, 2) := by decide +kernel
theorem dX8_fits_104 : decode cX8_fits 104 = .ok (.iinc 7 (-10), 3) := by decide +kernel
theorem dX8_fits_107 : decode cX8_fits 107 = .ok (.goto (-58), 3) := by decide +kernel
theorem dX8_fits_110 : decode cX8_fits 110 = .ok (.aload_n 0, 1) := by decide +kernel
theorem dX8_fits_111 : decode cX8_fits 111 = .ok (.getfield 18, 3) := by decide +kernel
theorem dX8_fits_114 : decode cX8_fits 114 = .ok (.bipush 8, 2) := by decide +kernel
theorem dX8_fits_116 : decode cX8_fits 116 = .ok (.iload_n 1, 1) := by decide +kernel
theorem dX8_fits_117 : decode cX8_fits 117 = .ok (.imul, 1) := by decide +kernel
theorem dX8_fits_118 : decode cX8_fits 118 = .ok (.iload_n 2, 1) := by decide +kernel
theorem dX8_fits_119 : decode cX8_fits 119 = .ok (.iadd, 1) := by decide +kernel
theorem dX8_fits_120 : decode cX8_fits 120 = .ok (.iload 4, 2) := by decide +kernel
theorem dX8_fits_122 : decode cX8_fits 122 = .ok (.iastore, 1) := by decide +kernel
theorem dX8_fits_123 : decode cX8_fits 123 = .ok (.aload_n 0, 1) := by decide +kernel
theorem dX8_fits_124 : decode cX8_fits 124 = .ok (.invokevirtual 282, 3) := by decide +kernel
theorem dX8_fits_127 : decode cX8_fits 127 = .ok (.iload_n 3, 1) := by decide +kernel
theorem dX8_fits_128 : decode cX8_fits 128 = .ok (.ifCond .ne 8, 3) := by decide +kernel
theorem dX8_fits_131 : decode cX8_fits 131 = .ok (.iload 5, 2) := by decide +kernel
theorem dX8_fits_133 : decode cX8_fits 133 = .ok (.goto 5, 3) := by decide +kernel
theorem dX8_fits_136 : decode cX8_fits 136 = .ok (.iload 6, 2) := by decide +kernel
theorem dX8_fits_138 : decode cX8_fits 138 = .ok (.ireturn, 1) := by decide +kernel
theorem dX8_lowest_0 : decode cX8_lowest 0 = .ok (.lload_n 0, 1) := by decide +kernel
theorem dX8_lowest_1 : decode cX8_lowest 1 = .ok (.lstore 5, 2) := by decide +kernel
theorem dX8_lowest_3 : decode cX8_lowest 3 = .ok (.lload_n 2, 1) := by decide +kernel
theorem dX8_lowest_4 : decode cX8_lowest 4 = .ok (.lstore 7, 2) := by decide +kernel
theorem dX8_lowest_6 : decode cX8_lowest 6 = .ok (.lload 7, 2) := by decide +kernel
theorem dX8_lowest_8 : decode cX8_lowest 8 = .ok (.lconst 0, 1) := by decide +kernel
theorem dX8_lowest_9 : decode cX8_lowest 9 = .ok (.lcmp, 1) := by decide +kernel
theorem dX8_lowest_10 : decode cX8_lowest 10 = .ok (.ifCond .eq 21, 3) := by decide +kernel
theorem dX8_lowest_13 : decode cX8_lowest 13 = .ok (.lload 5, 2) := by decide +kernel
theorem dX8_lowest_15 : decode cX8_lowest 15 = .ok (.lload 7, 2) := by decide +kernel
theorem dX8_lowest_17 : decode cX8_lowest 17 = .ok (.lrem, 1) := by decide +kernel
theorem dX8_lowest_18 : decode cX8_lowest 18 = .ok (.lstore 9, 2) := by decide +kernel
theorem dX8_lowest_20 : decode cX8_lowest 20 = .ok (.lload 7, 2) := by decide +kernel
theorem dX8_lowest_22 : decode cX8_lowest 22 = .ok (.lstore 5, 2) := by decide +kernel
theorem dX8_lowest_24 : decode cX8_lowest 24 = .ok (.lload 9, 2) := by decide +kernel
theorem dX8_lowest_26 : decode cX8_lowest 26 = .ok (.lstore 7, 2) := by decide +kernel
theorem dX8_lowest_28 : decode cX8_lowest 28 = .ok (.goto (-22), 3) := by decide +kernel
theorem dX8_lowest_31 : decode cX8_lowest 31 = .ok (.iload 4, 2) := by decide +kernel
theorem dX8_lowest_33 : decode cX8_lowest 33 = .ok (.ifCond .ne 7, 3) := by decide +kernel
theorem dX8_lowest_36 : decode cX8_lowest 36 = .ok (.lload_n 0, 1) := by decide +kernel
theorem dX8_lowest_37 : decode cX8_lowest 37 = .ok (.goto 4, 3) := by decide +kernel
theorem dX8_lowest_40 : decode cX8_lowest 40 = .ok (.lload_n 2, 1) := by decide +kernel
theorem dX8_lowest_41 : decode cX8_lowest 41 = .ok (.lload 5, 2) := by decide +kernel
theorem dX8_lowest_43 : decode cX8_lowest 43 = .ok (.ldiv, 1) := by decide +kernel
theorem dX8_lowest_44 : decode cX8_lowest 44 = .ok (.lreturn, 1) := by decide +kernel
theorem dX8_odds_0 : decode cX8_odds 0 = .ok (.aload_n 0, 1) := by decide +kernel
theorem dX8_odds_1 : decode cX8_odds 1 = .ok (.iload_n 1, 1) := by decide +kernel
theorem dX8_odds_2 : decode cX8_odds 2 = .ok (.invokevirtual 96, 3) := by decide +kernel
theorem dX8_odds_5 : decode cX8_odds 5 = .ok (.ifCond .eq 13, 3) := by decide +kernel
theorem dX8_odds_8 : decode cX8_odds 8 = .ok (.iload_n 2, 1) := by decide +kernel
theorem dX8_odds_9 : decode cX8_odds 9 = .ok (.i2l, 1) := by decide +kernel
theorem dX8_odds_10 : decode cX8_odds 10 = .ok (.lconst 0, 1) := by decide +kernel
theorem dX8_odds_11 : decode cX8_odds 11 = .ok (.lconst 1, 1) := by decide +kernel
theorem dX8_odds_12 : decode cX8_odds 12 = .ok (.invokestatic 92, 3) := by decide +kernel
theorem dX8_odds_15 : decode cX8_odds 15 = .ok (.ifCond .ne 7, 3) := by decide +kernel
theorem dX8_odds_18 : decode cX8_odds 18 = .ok (.ldc2_w 233, 3) := by decide +kernel
theorem dX8_odds_21 : decode cX8_odds 21 = .ok (.lreturn, 1) := by decide +kernel
theorem dX8_odds_22 : decode cX8_odds 22 = .ok (.aload_n 0, 1) := by decide +kernel
theorem dX8_odds_23 : decode cX8_odds 23 = .ok (.getfield 22, 3) := by decide +kernel
theorem dX8_odds_26 : decode cX8_odds 26 = .ok (.iload_n 1, 1) := by decide +kernel
theorem dX8_odds_27 : decode cX8_odds 27 = .ok (.iaload, 1) := by decide +kernel
theorem dX8_odds_28 : decode cX8_odds 28 = .ok (.istore_n 3, 1) := by decide +kernel
theorem dX8_odds_29 : decode cX8_odds 29 = .ok (.iconst 0, 1) := by decide +kernel
theorem dX8_odds_30 : decode cX8_odds 30 = .ok (.istore 4, 2) := by decide +kernel
theorem dX8_odds_32 : decode cX8_odds 32 = .ok (.aload_n 0, 1) := by decide +kernel
theorem dX8_odds_33 : decode cX8_odds 33 = .ok (.invokevirtual 272, 3) := by decide +kernel
theorem dX8_odds_36 : decode cX8_odds 36 = .ok (.iconst 1, 1) := by decide +kernel
theorem dX8_odds_37 : decode cX8_odds 37 = .ok (.istore 5, 2) := by decide +kernel
theorem dX8_odds_39 : decode cX8_odds 39 = .ok (.iload 5, 2) := by decide +kernel
theorem dX8_odds_41 : decode cX8_odds 41 = .ok (.bipush 50, 2) := by decide +kernel
theorem dX8_odds_43 : decode cX8_odds 43 = .ok (.if_icmp .ge 39, 3) := by decide +kernel
theorem dX8_odds_46 : decode cX8_odds 46 = .ok (.aload_n 0, 1) := by decide +kernel
theorem dX8_odds_47 : decode cX8_odds 47 = .ok (.iload 5, 2) := by decide +kernel
theorem dX8_odds_49 : decode cX8_odds 49 = .ok (.putfield 15, 3) := by decide +kernel
theorem dX8_odds_52 : decode cX8_odds 52 = .ok (.aload_n 0, 1) := by decide +kernel
theorem dX8_odds_53 : decode cX8_odds 53 = .ok (.invokevirtual 275, 3) := by decide +kernel
theorem dX8_odds_56 : decode cX8_odds 56 = .ok (.iload 4, 2) := by decide +kernel
theorem dX8_odds_58 : decode cX8_odds 58 = .ok (.aload_n 0, 1) := by decide +kernel
theorem dX8_odds_59 : decode cX8_odds 59 = .ok (.getfield 22, 3) := by decide +kernel
theorem dX8_odds_62 : decode cX8_odds 62 = .ok (.iload_n 1, 1) := by decide +kernel
theorem dX8_odds_63 : decode cX8_odds 63 = .ok (.iaload, 1) := by decide +kernel
theorem dX8_odds_64 : decode cX8_odds 64 = .ok (.iload_n 3, 1) := by decide +kernel
theorem dX8_odds_65 : decode cX8_odds 65 = .ok (.if_icmp .ne 7, 3) := by decide +kernel
theorem dX8_odds_68 : decode cX8_odds 68 = .ok (.iconst 1, 1) := by decide +kernel
theorem dX8_odds_69 : decode cX8_odds 69 = .ok (.goto 4, 3) := by decide +kernel
theorem dX8_odds_72 : decode cX8_odds 72 = .ok (.iconst 0, 1) := by decide +kernel
theorem dX8_odds_73 : decode cX8_odds 73 = .ok (.iadd, 1) := by decide +kernel
theorem dX8_odds_74 : decode cX8_odds 74 = .ok (.istore 4, 2) := by decide +kernel
theorem dX8_odds_76 : decode cX8_odds 76 = .ok (.iinc 5 5, 3) := by decide +kernel
theorem dX8_odds_79 : decode cX8_odds 79 = .ok (.goto (-40), 3) := by decide +kernel
theorem dX8_odds_82 : decode cX8_odds 82 = .ok (.aload_n 0, 1) := by decide +kernel
theorem dX8_odds_83 : decode cX8_odds 83 = .ok (.invokevirtual 282, 3) := by decide +kernel
theorem dX8_odds_86 : decode cX8_odds 86 = .ok (.iload 4, 2) := by decide +kernel
theorem dX8_odds_88 : decode cX8_odds 88 = .ok (.i2l, 1) := by decide +kernel
theorem dX8_odds_89 : decode cX8_odds 89 = .ok (.ldc2_w 285, 3) := by decide +kernel
theorem dX8_odds_92 : decode cX8_odds 92 = .ok (.iload_n 2, 1) := by decide +kernel
theorem dX8_odds_93 : decode cX8_odds 93 = .ok (.invokestatic 287, 3) := by decide +kernel
theorem dX8_odds_96 : decode cX8_odds 96 = .ok (.lreturn, 1) := by decide +kernel
theorem dX8_mean_0 : decode cX8_mean 0 = .ok (.iload_n 1, 1) := by decide +kernel
theorem dX8_mean_1 : decode cX8_mean 1 = .ok (.i2l, 1) := by decide +kernel
theorem dX8_mean_2 : decode cX8_mean 2 = .ok (.lconst 0, 1) := by decide +kernel
theorem dX8_mean_3 : decode cX8_mean 3 = .ok (.lconst 1, 1) := by decide +kernel
theorem dX8_mean_4 : decode cX8_mean 4 = .ok (.invokestatic 92, 3) := by decide +kernel
theorem dX8_mean_7 : decode cX8_mean 7 = .ok (.ifCond .eq 20, 3) := by decide +kernel
theorem dX8_mean_10 : decode cX8_mean 10 = .ok (.aload_n 0, 1) := by decide +kernel
theorem dX8_mean_11 : decode cX8_mean 11 = .ok (.invokevirtual 269, 3) := by decide +kernel
theorem dX8_mean_14 : decode cX8_mean 14 = .ok (.i2l, 1) := by decide +kernel
theorem dX8_mean_15 : decode cX8_mean 15 = .ok (.aload_n 0, 1) := by decide +kernel
theorem dX8_mean_16 : decode cX8_mean 16 = .ok (.getfield 9, 3) := by decide +kernel
theorem dX8_mean_19 : decode cX8_mean 19 = .ok (.i2l, 1) := by decide +kernel
theorem dX8_mean_20 : decode cX8_mean 20 = .ok (.iload_n 1, 1) := by decide +kernel
theorem dX8_mean_21 : decode cX8_mean 21 = .ok (.invokestatic 287, 3) := by decide +kernel
theorem dX8_mean_24 : decode cX8_mean 24 = .ok (.goto 6, 3) := by decide +kernel
theorem dX8_mean_27 : decode cX8_mean 27 = .ok (.ldc2_w 233, 3) := by decide +kernel
theorem dX8_mean_30 : decode cX8_mean 30 = .ok (.lreturn, 1) := by decide +kernel
theorem dX8_plan_0 : decode cX8_plan 0 = .ok (.iload_n 1, 1) := by decide +kernel
theorem dX8_plan_1 : decode cX8_plan 1 = .ok (.iconst (-1), 1) := by decide +kernel
theorem dX8_plan_2 : decode cX8_plan 2 = .ok (.if_icmp .ne 10, 3) := by decide +kernel
theorem dX8_plan_5 : decode cX8_plan 5 = .ok (.aload_n 0, 1) := by decide +kernel
theorem dX8_plan_6 : decode cX8_plan 6 = .ok (.iconst 0, 1) := by decide +kernel
theorem dX8_plan_7 : decode cX8_plan 7 = .ok (.putfield 114, 3) := by decide +kernel
theorem dX8_plan_10 : decode cX8_plan 10 = .ok (.iconst 0, 1) := by decide +kernel
theorem dX8_plan_11 : decode cX8_plan 11 = .ok (.ireturn, 1) := by decide +kernel
theorem dX8_plan_12 : decode cX8_plan 12 = .ok (.iload_n 1, 1) := by decide +kernel
theorem dX8_plan_13 : decode cX8_plan 13 = .ok (.i2l, 1) := by decide +kernel
theorem dX8_plan_14 : decode cX8_plan 14 = .ok (.lconst 0, 1) := by decide +kernel
theorem dX8_plan_15 : decode cX8_plan 15 = .ok (.ldc2_w 291, 3) := by decide +kernel
theorem dX8_plan_18 : decode cX8_plan 18 = .ok (.invokestatic 92, 3) := by decide +kernel
theorem dX8_plan_21 : decode cX8_plan 21 = .ok (.ifCond .eq 16, 3) := by decide +kernel
theorem dX8_plan_24 : decode cX8_plan 24 = .ok (.iload_n 1, 1) := by decide +kernel
theorem dX8_plan_25 : decode cX8_plan 25 = .ok (.iconst 1, 1) := by decide +kernel
theorem dX8_plan_26 : decode cX8_plan 26 = .ok (.if_icmp .ne 13, 3) := by decide +kernel
theorem dX8_plan_29 : decode cX8_plan 29 = .ok (.aload_n 0, 1) := by decide +kernel
theorem dX8_plan_30 : decode cX8_plan 30 = .ok (.iload_n 2, 1) := by decide +kernel
theorem dX8_plan_31 : decode cX8_plan 31 = .ok (.invokevirtual 96, 3) := by decide +kernel
theorem dX8_plan_34 : decode cX8_plan 34 = .ok (.ifCond .ne 5, 3) := by decide +kernel
theorem dX8_plan_37 : decode cX8_plan 37 = .ok (.iconst (-1), 1) := by decide +kernel
theorem dX8_plan_38 : decode cX8_plan 38 = .ok (.ireturn, 1) := by decide +kernel
theorem dX8_plan_39 : decode cX8_plan 39 = .ok (.iload_n 1, 1) := by decide +kernel
theorem dX8_plan_40 : decode cX8_plan 40 = .ok (.iconst 2, 1) := by decide +kernel
theorem dX8_plan_41 : decode cX8_plan 41 = .ok (.if_icmp .ne 18, 3) := by decide +kernel
theorem dX8_plan_44 : decode cX8_plan 44 = .ok (.iload_n 2, 1) := by decide +kernel
theorem dX8_plan_45 : decode cX8_plan 45 = .ok (.i2l, 1) := by decide +kernel
theorem dX8_plan_46 : decode cX8_plan 46 = .ok (.lconst 1, 1) := by decide +kernel
theorem dX8_plan_47 : decode cX8_plan 47 = .ok (.ldc2_w 175, 3) := by decide +kernel
theorem dX8_plan_50 : decode cX8_plan 50 = .ok (.invokestatic 92, 3) := by decide +kernel
theorem dX8_plan_53 : decode cX8_plan 53 = .ok (.ifCond .ne 6, 3) := by decide +kernel
theorem dX8_plan_56 : decode cX8_plan 56 = .ok (.bipush (-2), 2) := by decide +kernel
theorem dX8_plan_58 : decode cX8_plan 58 = .ok (.ireturn, 1) := by decide +kernel
theorem dX8_plan_59 : decode cX8_plan 59 = .ok (.aload_n 0, 1) := by decide +kernel
theorem dX8_plan_60 : decode cX8_plan 60 = .ok (.getfield 114, 3) := by decide +kernel
theorem dX8_plan_63 : decode cX8_plan 63 = .ok (.bipush 10, 2) := by decide +kernel
theorem dX8_plan_65 : decode cX8_plan 65 = .ok (.if_icmp .ne 6, 3) := by decide +kernel
theorem dX8_plan_68 : decode cX8_plan 68 = .ok (.bipush (-4), 2) := by decide +kernel
theorem dX8_plan_70 : decode cX8_plan 70 = .ok (.ireturn, 1) := by decide +kernel
theorem dX8_plan_71 : decode cX8_plan 71 = .ok (.aload_n 0, 1) := by decide +kernel
theorem dX8_plan_72 : decode cX8_plan 72 = .ok (.getfield 37, 3) := by decide +kernel
theorem dX8_plan_75 : decode cX8_plan 75 = .ok (.aload_n 0, 1) := by decide +kernel
theorem dX8_plan_76 : decode cX8_plan 76 = .ok (.getfield 114, 3) := by decide +kernel
theorem dX8_plan_79 : decode cX8_plan 79 = .ok (.iload_n 1, 1) := by decide +kernel
theorem dX8_plan_80 : decode cX8_plan 80 = .ok (.iastore, 1) := by decide +kernel
theorem dX8_plan_81 : decode cX8_plan 81 = .ok (.aload_n 0, 1) := by decide +kernel
theorem dX8_plan_82 : decode cX8_plan 82 = .ok (.getfield 40, 3) := by decide +kernel
theorem dX8_plan_85 : decode cX8_plan 85 = .ok (.aload_n 0, 1) := by decide +kernel
theorem dX8_plan_86 : decode cX8_plan 86 = .ok (.getfield 114, 3) := by decide +kernel
theorem dX8_plan_89 : decode cX8_plan 89 = .ok (.iload_n 2, 1) := by decide +kernel
theorem dX8_plan_90 : decode cX8_plan 90 = .ok (.iastore, 1) := by decide +kernel
theorem dX8_plan_91 : decode cX8_plan 91 = .ok (.aload_n 0, 1) := by decide +kernel
theorem dX8_plan_92 : decode cX8_plan 92 = .ok (.dup, 1) := by decide +kernel
theorem dX8_plan_93 : decode cX8_plan 93 = .ok (.getfield 114, 3) := by decide +kernel
theorem dX8_plan_96 : decode cX8_plan 96 = .ok (.iconst 1, 1) := by decide +kernel
theorem dX8_plan_97 : decode cX8_plan 97 = .ok (.iadd, 1) := by decide +kernel
theorem dX8_plan_98 : decode cX8_plan 98 = .ok (.putfield 114, 3) := by decide +kernel
theorem dX8_plan_101 : decode cX8_plan 101 = .ok (.aload_n 0, 1) := by decide +kernel
theorem dX8_plan_102 : decode cX8_plan 102 = .ok (.getfield 114, 3) := by decide +kernel
theorem dX8_plan_105 : decode cX8_plan 105 = .ok (.ireturn, 1) := by decide +kernel
theorem dX8_ends_0 : decode cX8_ends 0 = .ok (.iload_n 1, 1) := by decide +kernel
theorem dX8_ends_1 : decode cX8_ends 1 = .ok (.i2l, 1) := by decide +kernel
theorem dX8_ends_2 : decode cX8_ends 2 = .ok (.lconst 0, 1) := by decide +kernel
theorem dX8_ends_3 : decode cX8_ends 3 = .ok (.lconst 1, 1) := by decide +kernel
theorem dX8_ends_4 : decode cX8_ends 4 = .ok (.invokestatic 92, 3) := by decide +kernel
theorem dX8_ends_7 : decode cX8_ends 7 = .ok (.ifCond .ne 5, 3) := by decide +kernel
theorem dX8_ends_10 : decode cX8_ends 10 = .ok (.iconst (-1), 1) := by decide +kernel
theorem dX8_ends_11 : decode cX8_ends 11 = .ok (.ireturn, 1) := by decide +kernel
theorem dX8_ends_12 : decode cX8_ends 12 = .ok (.aload_n 0, 1) := by decide +kernel
theorem dX8_ends_13 : decode cX8_ends 13 = .ok (.invokevirtual 272, 3) := by decide +kernel
theorem dX8_ends_16 : decode cX8_ends 16 = .ok (.iconst 0, 1) := by decide +kernel
theorem dX8_ends_17 : decode cX8_ends 17 = .ok (.istore_n 2, 1) := by decide +kernel
theorem dX8_ends_18 : decode cX8_ends 18 = .ok (.iload_n 2, 1) := by decide +kernel
theorem dX8_ends_19 : decode cX8_ends 19 = .ok (.aload_n 0, 1) := by decide +kernel
theorem dX8_ends_20 : decode cX8_ends 20 = .ok (.getfield 114, 3) := by decide +kernel
theorem dX8_ends_23 : decode cX8_ends 23 = .ok (.if_icmp .ge 59, 3) := by decide +kernel
theorem dX8_ends_26 : decode cX8_ends 26 = .ok (.aload_n 0, 1) := by decide +kernel
theorem dX8_ends_27 : decode cX8_ends 27 = .ok (.getfield 37, 3) := by decide +kernel
theorem dX8_ends_30 : decode cX8_ends 30 = .ok (.iload_n 2, 1) := by decide +kernel
theorem dX8_ends_31 : decode cX8_ends 31 = .ok (.iaload, 1) := by decide +kernel
theorem dX8_ends_32 : decode cX8_ends 32 = .ok (.ifCond .ne 11, 3) := by decide +kernel
theorem dX8_ends_35 : decode cX8_ends 35 = .ok (.aload_n 0, 1) := by decide +kernel
theorem dX8_ends_36 : decode cX8_ends 36 = .ok (.invokevirtual 293, 3) := by decide +kernel
theorem dX8_ends_39 : decode cX8_ends 39 = .ok (.pop, 1) := by decide +kernel
theorem dX8_ends_40 : decode cX8_ends 40 = .ok (.goto 36, 3) := by decide +kernel
theorem dX8_ends_43 : decode cX8_ends 43 = .ok (.aload_n 0, 1) := by decide +kernel
theorem dX8_ends_44 : decode cX8_ends 44 = .ok (.getfield 37, 3) := by decide +kernel
theorem dX8_ends_47 : decode cX8_ends 47 = .ok (.iload_n 2, 1) := by decide +kernel
theorem dX8_ends_48 : decode cX8_ends 48 = .ok (.iaload, 1) := by decide +kernel
theorem dX8_ends_49 : decode cX8_ends 49 = .ok (.iconst 1, 1) := by decide +kernel
theorem dX8_ends_50 : decode cX8_ends 50 = .ok (.if_icmp .ne 16, 3) := by decide +kernel
theorem dX8_ends_53 : decode cX8_ends 53 = .ok (.aload_n 0, 1) := by decide +kernel
theorem dX8_ends_54 : decode cX8_ends 54 = .ok (.aload_n 0, 1) := by decide +kernel
theorem dX8_ends_55 : decode cX8_ends 55 = .ok (.getfield 40, 3) := by decide +kernel
theorem dX8_ends_58 : decode cX8_ends 58 = .ok (.iload_n 2, 1) := by decide +kernel
theorem dX8_ends_59 : decode cX8_ends 59 = .ok (.iaload, 1) := by decide +kernel
theorem dX8_ends_60 : decode cX8_ends 60 = .ok (.invokevirtual 155, 3) := by decide +kernel
theorem dX8_ends_63 : decode cX8_ends 63 = .ok (.goto 13, 3) := by decide +kernel
theorem dX8_ends_66 : decode cX8_ends 66 = .ok (.aload_n 0, 1) := by decide +kernel
theorem dX8_ends_67 : decode cX8_ends 67 = .ok (.aload_n 0, 1) := by decide +kernel
theorem dX8_ends_68 : decode cX8_ends 68 = .ok (.getfield 40, 3) := by decide +kernel
theorem dX8_ends_71 : decode cX8_ends 71 = .ok (.iload_n 2, 1) := by decide +kernel
theorem dX8_ends_72 : decode cX8_ends 72 = .ok (.iaload, 1) := by decide +kernel
theorem dX8_ends_73 : decode cX8_ends 73 = .ok (.putfield 15, 3) := by decide +kernel
theorem dX8_ends_76 : decode cX8_ends 76 = .ok (.iinc 2 1, 3) := by decide +kernel
theorem dX8_ends_79 : decode cX8_ends 79 = .ok (.goto (-61), 3) := by decide +kernel
theorem dX8_ends_82 : decode cX8_ends 82 = .ok (.iload_n 1, 1) := by decide +kernel
theorem dX8_ends_83 : decode cX8_ends 83 = .ok (.ifCond .ne 10, 3) := by decide +kernel
theorem dX8_ends_86 : decode cX8_ends 86 = .ok (.aload_n 0, 1) := by decide +kernel
theorem dX8_ends_87 : decode cX8_ends 87 = .ok (.invokevirtual 254, 3) := by decide +kernel
theorem dX8_ends_90 : decode cX8_ends 90 = .ok (.goto 7, 3) := by decide +kernel
theorem dX8_ends_93 : decode cX8_ends 93 = .ok (.aload_n 0, 1) := by decide +kernel
theorem dX8_ends_94 : decode cX8_ends 94 = .ok (.invokevirtual 269, 3) := by decide +kernel
theorem dX8_ends_97 : decode cX8_ends 97 = .ok (.istore_n 2, 1) := by decide +kernel
theorem dX8_ends_98 : decode cX8_ends 98 = .ok (.aload_n 0, 1) := by decide +kernel
theorem dX8_ends_99 : decode cX8_ends 99 = .ok (.invokevirtual 282, 3) := by decide +kernel
theorem dX8_ends_102 : decode cX8_ends 102 = .ok (.iload_n 2, 1) := by decide +kernel
theorem dX8_ends_103 : decode cX8_ends 103 = .ok (.ireturn, 1) := by decide +kernel
theorem dX8_book_0 : decode cX8_book 0 = .ok (.iload_n 1, 1) := by decide +kernel
theorem dX8_book_1 : decode cX8_book 1 = .ok (.iconst (-1), 1) := by decide +kernel
theorem dX8_book_2 : decode cX8_book 2 = .ok (.if_icmp .ne 10, 3) := by decide +kernel
theorem dX8_book_5 : decode cX8_book 5 = .ok (.aload_n 0, 1) := by decide +kernel
theorem dX8_book_6 : decode cX8_book 6 = .ok (.iconst 0, 1) := by decide +kernel
theorem dX8_book_7 : decode cX8_book 7 = .ok (.putfield 117, 3) := by decide +kernel
theorem dX8_book_10 : decode cX8_book 10 = .ok (.iconst 0, 1) := by decide +kernel
theorem dX8_book_11 : decode cX8_book 11 = .ok (.ireturn, 1) := by decide +kernel
theorem dX8_book_12 : decode cX8_book 12 = .ok (.aload_n 0, 1) := by decide +kernel
theorem dX8_book_13 : decode cX8_book 13 = .ok (.iload_n 1, 1) := by decide +kernel
theorem dX8_book_14 : decode cX8_book 14 = .ok (.invokevirtual 96, 3) := by decide +kernel
theorem dX8_book_17 : decode cX8_book 17 = .ok (.ifCond .ne 5, 3) := by decide +kernel
theorem dX8_book_20 : decode cX8_book 20 = .ok (.iconst (-1), 1) := by decide +kernel
theorem dX8_book_21 : decode cX8_book 21 = .ok (.ireturn, 1) := by decide +kernel
theorem dX8_book_22 : decode cX8_book 22 = .ok (.iload_n 2, 1) := by decide +kernel
theorem dX8_book_23 : decode cX8_book 23 = .ok (.i2l, 1) := by decide +kernel
theorem dX8_book_24 : decode cX8_book 24 = .ok (.lconst 0, 1) := by decide +kernel
theorem dX8_book_25 : decode cX8_book 25 = .ok (.ldc2_w 296, 3) := by decide +kernel
theorem dX8_book_28 : decode cX8_book 28 = .ok (.invokestatic 92, 3) := by decide +kernel
theorem dX8_book_31 : decode cX8_book 31 = .ok (.ifCond .ne 6, 3) := by decide +kernel
theorem dX8_book_34 : decode cX8_book 34 = .ok (.bipush (-2), 2) := by decide +kernel
theorem dX8_book_36 : decode cX8_book 36 = .ok (.ireturn, 1) := by decide +kernel
theorem dX8_book_37 : decode cX8_book 37 = .ok (.aload_n 0, 1) := by decide +kernel
theorem dX8_book_38 : decode cX8_book 38 = .ok (.getfield 117, 3) := by decide +kernel
theorem dX8_book_41 : decode cX8_book 41 = .ok (.bipush 8, 2) := by decide +kernel
theorem dX8_book_43 : decode cX8_book 43 = .ok (.if_icmp .ne 6, 3) := by decide +kernel
theorem dX8_book_46 : decode cX8_book 46 = .ok (.bipush (-4), 2) := by decide +kernel
theorem dX8_book_48 : decode cX8_book 48 = .ok (.ireturn, 1) := by decide +kernel
theorem dX8_book_49 : decode cX8_book 49 = .ok (.aload_n 0, 1) := by decide +kernel
theorem dX8_book_50 : decode cX8_book 50 = .ok (.getfield 43, 3) := by decide +kernel
theorem dX8_book_53 : decode cX8_book 53 = .ok (.aload_n 0, 1) := by decide +kernel
theorem dX8_book_54 : decode cX8_book 54 = .ok (.getfield 117, 3) := by decide +kernel
theorem dX8_book_57 : decode cX8_book 57 = .ok (.iload_n 1, 1) := by decide +kernel
theorem dX8_book_58 : decode cX8_book 58 = .ok (.iastore, 1) := by decide +kernel
theorem dX8_book_59 : decode cX8_book 59 = .ok (.aload_n 0, 1) := by decide +kernel
theorem dX8_book_60 : decode cX8_book 60 = .ok (.getfield 46, 3) := by decide +kernel
theorem dX8_book_63 : decode cX8_book 63 = .ok (.aload_n 0, 1) := by decide +kernel
theorem dX8_book_64 : decode cX8_book 64 = .ok (.getfield 117, 3) := by decide +kernel
theorem dX8_book_67 : decode cX8_book 67 = .ok (.iload_n 2, 1) := by decide +kernel
theorem dX8_book_68 : decode cX8_book 68 = .ok (.iastore, 1) := by decide +kernel
theorem dX8_book_69 : decode cX8_book 69 = .ok (.aload_n 0, 1) := by decide +kernel
theorem dX8_book_70 : decode cX8_book 70 = .ok (.dup, 1) := by decide +kernel
theorem dX8_book_71 : decode cX8_book 71 = .ok (.getfield 117, 3) := by decide +kernel
theorem dX8_book_74 : decode cX8_book 74 = .ok (.iconst 1, 1) := by decide +kernel
theorem dX8_book_75 : decode cX8_book 75 = .ok (.iadd, 1) := by decide +kernel
theorem dX8_book_76 : decode cX8_book 76 = .ok (.putfield 117, 3) := by decide +kernel
theorem dX8_book_79 : decode cX8_book 79 = .ok (.aload_n 0, 1) := by decide +kernel
theorem dX8_book_80 : decode cX8_book 80 = .ok (.getfield 117, 3) := by decide +kernel
theorem dX8_book_83 : decode cX8_book 83 = .ok (.ireturn, 1) := by decide +kernel
theorem dX8_looked_0 : decode cX8_looked 0 = .ok (.iconst 0, 1) := by decide +kernel
theorem dX8_looked_1 : decode cX8_looked 1 = .ok (.istore_n 1, 1) := by decide +kernel
theorem dX8_looked_2 : decode cX8_looked 2 = .ok (.iload_n 1, 1) := by decide +kernel
theorem dX8_looked_3 : decode cX8_looked 3 = .ok (.aload_n 0, 1) := by decide +kernel
theorem dX8_looked_4 : decode cX8_looked 4 = .ok (.getfield 117, 3) := by decide +kernel
theorem dX8_looked_7 : decode cX8_looked 7 = .ok (.if_icmp .ge 31, 3) := by decide +kernel
theorem dX8_looked_10 : decode cX8_looked 10 = .ok (.aload_n 0, 1) := by decide +kernel
theorem dX8_looked_11 : decode cX8_looked 11 = .ok (.getfield 28, 3) := by decide +kernel
theorem dX8_looked_14 : decode cX8_looked 14 = .ok (.aload_n 0, 1) := by decide +kernel
theorem dX8_looked_15 : decode cX8_looked 15 = .ok (.getfield 43, 3) := by decide +kernel
theorem dX8_looked_18 : decode cX8_looked 18 = .ok (.iload_n 1, 1) := by decide +kernel
theorem dX8_looked_19 : decode cX8_looked 19 = .ok (.iaload, 1) := by decide +kernel
theorem dX8_looked_20 : decode cX8_looked 20 = .ok (.iaload, 1) := by decide +kernel
theorem dX8_looked_21 : decode cX8_looked 21 = .ok (.aload_n 0, 1) := by decide +kernel
theorem dX8_looked_22 : decode cX8_looked 22 = .ok (.getfield 46, 3) := by decide +kernel
theorem dX8_looked_25 : decode cX8_looked 25 = .ok (.iload_n 1, 1) := by decide +kernel
theorem dX8_looked_26 : decode cX8_looked 26 = .ok (.iaload, 1) := by decide +kernel
theorem dX8_looked_27 : decode cX8_looked 27 = .ok (.if_icmp .eq 5, 3) := by decide +kernel
theorem dX8_looked_30 : decode cX8_looked 30 = .ok (.iload_n 1, 1) := by decide +kernel
theorem dX8_looked_31 : decode cX8_looked 31 = .ok (.ireturn, 1) := by decide +kernel
theorem dX8_looked_32 : decode cX8_looked 32 = .ok (.iinc 1 1, 3) := by decide +kernel
theorem dX8_looked_35 : decode cX8_looked 35 = .ok (.goto (-33), 3) := by decide +kernel
theorem dX8_looked_38 : decode cX8_looked 38 = .ok (.bipush (-5), 2) := by decide +kernel
theorem dX8_looked_40 : decode cX8_looked 40 = .ok (.ireturn, 1) := by decide +kernel
theorem dX8_isTape_0 : decode cX8_isTape 0 = .ok (.iload_n 0, 1) := by decide +kernel
theorem dX8_isTape_1 : decode cX8_isTape 1 = .ok (.i2l, 1) := by decide +kernel
theorem dX8_isTape_2 : decode cX8_isTape 2 = .ok (.lconst 0, 1) := by decide +kernel
theorem dX8_isTape_3 : decode cX8_isTape 3 = .ok (.ldc2_w 298, 3) := by decide +kernel
theorem dX8_isTape_6 : decode cX8_isTape 6 = .ok (.invokestatic 92, 3) := by decide +kernel
theorem dX8_isTape_9 : decode cX8_isTape 9 = .ok (.ireturn, 1) := by decide +kernel
theorem dX8_judge_0 : decode cX8_judge 0 = .ok (.iload_n 1, 1) := by decide +kernel
theorem dX8_judge_1 : decode cX8_judge 1 = .ok (.invokestatic 300, 3) := by decide +kernel
theorem dX8_judge_4 : decode cX8_judge 4 = .ok (.ifCond .ne 5, 3) := by decide +kernel
theorem dX8_judge_7 : decode cX8_judge 7 = .ok (.iconst (-1), 1) := by decide +kernel
theorem dX8_judge_8 : decode cX8_judge 8 = .ok (.ireturn, 1) := by decide +kernel
theorem dX8_judge_9 : decode cX8_judge 9 = .ok (.aload_n 0, 1) := by decide +kernel
theorem dX8_judge_10 : decode cX8_judge 10 = .ok (.getfield 78, 3) := by decide +kernel
theorem dX8_judge_13 : decode cX8_judge 13 = .ok (.iload_n 1, 1) := by decide +kernel
theorem dX8_judge_14 : decode cX8_judge 14 = .ok (.iaload, 1) := by decide +kernel
theorem dX8_judge_15 : decode cX8_judge 15 = .ok (.ifCond .lt 16, 3) := by decide +kernel
theorem dX8_judge_18 : decode cX8_judge 18 = .ok (.aload_n 0, 1) := by decide +kernel
theorem dX8_judge_19 : decode cX8_judge 19 = .ok (.getfield 78, 3) := by decide +kernel
theorem dX8_judge_22 : decode cX8_judge 22 = .ok (.iload_n 1, 1) := by decide +kernel
theorem dX8_judge_23 : decode cX8_judge 23 = .ok (.iaload, 1) := by decide +kernel
theorem dX8_judge_24 : decode cX8_judge 24 = .ok (.iconst 3, 1) := by decide +kernel
theorem dX8_judge_25 : decode cX8_judge 25 = .ok (.if_icmp .eq 6, 3) := by decide +kernel
theorem dX8_judge_28 : decode cX8_judge 28 = .ok (.bipush (-12), 2) := by decide +kernel
theorem dX8_judge_30 : decode cX8_judge 30 = .ok (.ireturn, 1) := by decide +kernel
theorem dX8_judge_31 : decode cX8_judge 31 = .ok (.iconst 0, 1) := by decide +kernel
theorem dX8_judge_32 : decode cX8_judge 32 = .ok (.istore_n 3, 1) := by decide +kernel
theorem dX8_judge_33 : decode cX8_judge 33 = .ok (.iload_n 3, 1) := by decide +kernel
theorem dX8_judge_34 : decode cX8_judge 34 = .ok (.aload_n 0, 1) := by decide +kernel
theorem dX8_judge_35 : decode cX8_judge 35 = .ok (.getfield 9, 3) := by decide +kernel
theorem dX8_judge_38 : decode cX8_judge 38 = .ok (.if_icmp .ge 53, 3) := by decide +kernel
theorem dX8_judge_41 : decode cX8_judge 41 = .ok (.iload_n 2, 1) := by decide +kernel
theorem dX8_judge_42 : decode cX8_judge 42 = .ok (.ifCond .lt 15, 3) := by decide +kernel
theorem dX8_judge_45 : decode cX8_judge 45 = .ok (.iload_n 2, 1) := by decide +kernel
theorem dX8_judge_46 : decode cX8_judge 46 = .ok (.aload_n 0, 1) := by decide +kernel
theorem dX8_judge_47 : decode cX8_judge 47 = .ok (.getfield 81, 3) := by decide +kernel
theorem dX8_judge_50 : decode cX8_judge 50 = .ok (.iload_n 1, 1) := by decide +kernel
theorem dX8_judge_51 : decode cX8_judge 51 = .ok (.iaload, 1) := by decide +kernel
theorem dX8_judge_52 : decode cX8_judge 52 = .ok (.iload_n 3, 1) := by decide +kernel
theorem dX8_judge_53 : decode cX8_judge 53 = .ok (.isub, 1) := by decide +kernel
theorem dX8_judge_54 : decode cX8_judge 54 = .ok (.if_icmp .lt 8, 3) := by decide +kernel
theorem dX8_judge_57 : decode cX8_judge 57 = .ok (.bipush 100, 2) := by decide +kernel
theorem dX8_judge_59 : decode cX8_judge 59 = .ok (.iload_n 3, 1) := by decide +kernel
theorem dX8_judge_60 : decode cX8_judge 60 = .ok (.iadd, 1) := by decide +kernel
theorem dX8_judge_61 : decode cX8_judge 61 = .ok (.ireturn, 1) := by decide +kernel
theorem dX8_judge_62 : decode cX8_judge 62 = .ok (.aload_n 0, 1) := by decide +kernel
theorem dX8_judge_63 : decode cX8_judge 63 = .ok (.getfield 75, 3) := by decide +kernel
theorem dX8_judge_66 : decode cX8_judge 66 = .ok (.iload_n 1, 1) := by decide +kernel
theorem dX8_judge_67 : decode cX8_judge 67 = .ok (.aaload, 1) := by decide +kernel
theorem dX8_judge_68 : decode cX8_judge 68 = .ok (.iload_n 2, 1) := by decide +kernel
theorem dX8_judge_69 : decode cX8_judge 69 = .ok (.iload_n 3, 1) := by decide +kernel
theorem dX8_judge_70 : decode cX8_judge 70 = .ok (.iadd, 1) := by decide +kernel
theorem dX8_judge_71 : decode cX8_judge 71 = .ok (.laload, 1) := by decide +kernel
theorem dX8_judge_72 : decode cX8_judge 72 = .ok (.aload_n 0, 1) := by decide +kernel
theorem dX8_judge_73 : decode cX8_judge 73 = .ok (.getfield 28, 3) := by decide +kernel
theorem dX8_judge_76 : decode cX8_judge 76 = .ok (.iload_n 3, 1) := by decide +kernel
theorem dX8_judge_77 : decode cX8_judge 77 = .ok (.iaload, 1) := by decide +kernel
theorem dX8_judge_78 : decode cX8_judge 78 = .ok (.i2l, 1) := by decide +kernel
theorem dX8_judge_79 : decode cX8_judge 79 = .ok (.lcmp, 1) := by decide +kernel
theorem dX8_judge_80 : decode cX8_judge 80 = .ok (.ifCond .eq 5, 3) := by decide +kernel
theorem dX8_judge_83 : decode cX8_judge 83 = .ok (.iload_n 3, 1) := by decide +kernel
theorem dX8_judge_84 : decode cX8_judge 84 = .ok (.ireturn, 1) := by decide +kernel
theorem dX8_judge_85 : decode cX8_judge 85 = .ok (.iinc 3 1, 3) := by decide +kernel
theorem dX8_judge_88 : decode cX8_judge 88 = .ok (.goto (-55), 3) := by decide +kernel
theorem dX8_judge_91 : decode cX8_judge 91 = .ok (.bipush (-5), 2) := by decide +kernel
theorem dX8_judge_93 : decode cX8_judge 93 = .ok (.ireturn, 1) := by decide +kernel
theorem dX8_count_0 : decode cX8_count 0 = .ok (.iload_n 1, 1) := by decide +kernel
theorem dX8_count_1 : decode cX8_count 1 = .ok (.tableswitch 69 0 5 #[39, 44, 49, 54, 59, 64], 39) := by decide +kernel
theorem dX8_count_40 : decode cX8_count 40 = .ok (.aload_n 0, 1) := by decide +kernel
theorem dX8_count_41 : decode cX8_count 41 = .ok (.getfield 9, 3) := by decide +kernel
theorem dX8_count_44 : decode cX8_count 44 = .ok (.ireturn, 1) := by decide +kernel
theorem dX8_count_45 : decode cX8_count 45 = .ok (.aload_n 0, 1) := by decide +kernel
theorem dX8_count_46 : decode cX8_count 46 = .ok (.getfield 111, 3) := by decide +kernel
theorem dX8_count_49 : decode cX8_count 49 = .ok (.ireturn, 1) := by decide +kernel
theorem dX8_count_50 : decode cX8_count 50 = .ok (.aload_n 0, 1) := by decide +kernel
theorem dX8_count_51 : decode cX8_count 51 = .ok (.getfield 114, 3) := by decide +kernel
theorem dX8_count_54 : decode cX8_count 54 = .ok (.ireturn, 1) := by decide +kernel
theorem dX8_count_55 : decode cX8_count 55 = .ok (.aload_n 0, 1) := by decide +kernel
theorem dX8_count_56 : decode cX8_count 56 = .ok (.getfield 117, 3) := by decide +kernel
theorem dX8_count_59 : decode cX8_count 59 = .ok (.ireturn, 1) := by decide +kernel
theorem dX8_count_60 : decode cX8_count 60 = .ok (.aload_n 0, 1) := by decide +kernel
theorem dX8_count_61 : decode cX8_count 61 = .ok (.getfield 180, 3) := by decide +kernel
theorem dX8_count_64 : decode cX8_count 64 = .ok (.ireturn, 1) := by decide +kernel
theorem dX8_count_65 : decode cX8_count 65 = .ok (.aload_n 0, 1) := by decide +kernel
theorem dX8_count_66 : decode cX8_count 66 = .ok (.invokevirtual 303, 3) := by decide +kernel
theorem dX8_count_69 : decode cX8_count 69 = .ok (.ireturn, 1) := by decide +kernel
theorem dX8_count_70 : decode cX8_count 70 = .ok (.bipush (-2), 2) := by decide +kernel
theorem dX8_count_72 : decode cX8_count 72 = .ok (.ireturn, 1) := by decide +kernel
theorem dX8_forbidden_0 : decode cX8_forbidden 0 = .ok (.iconst 0, 1) := by decide +kernel
theorem dX8_forbidden_1 : decode cX8_forbidden 1 = .ok (.istore_n 1, 1) := by decide +kernel
theorem dX8_forbidden_2 : decode cX8_forbidden 2 = .ok (.iconst 0, 1) := by decide +kernel
theorem dX8_forbidden_3 : decode cX8_forbidden 3 = .ok (.istore_n 2, 1) := by decide +kernel
theorem dX8_forbidden_4 : decode cX8_forbidden 4 = .ok (.iload_n 2, 1) := by decide +kernel
theorem dX8_forbidden_5 : decode cX8_forbidden 5 = .ok (.aload_n 0, 1) := by decide +kernel
theorem dX8_forbidden_6 : decode cX8_forbidden 6 = .ok (.getfield 9, 3) := by decide +kernel
theorem dX8_forbidden_9 : decode cX8_forbidden 9 = .ok (.if_icmp .ge 25, 3) := by decide +kernel
theorem dX8_forbidden_12 : decode cX8_forbidden 12 = .ok (.iload_n 1, 1) := by decide +kernel
theorem dX8_forbidden_13 : decode cX8_forbidden 13 = .ok (.aload_n 0, 1) := by decide +kernel
theorem dX8_forbidden_14 : decode cX8_forbidden 14 = .ok (.getfield 9, 3) := by decide +kernel
theorem dX8_forbidden_17 : decode cX8_forbidden 17 = .ok (.aload_n 0, 1) := by decide +kernel
theorem dX8_forbidden_18 : decode cX8_forbidden 18 = .ok (.iload_n 2, 1) := by decide +kernel
theorem dX8_forbidden_19 : decode cX8_forbidden 19 = .ok (.invokevirtual 240, 3) := by decide +kernel
theorem dX8_forbidden_22 : decode cX8_forbidden 22 = .ok (.invokestatic 243, 3) := by decide +kernel
theorem dX8_forbidden_25 : decode cX8_forbidden 25 = .ok (.isub, 1) := by decide +kernel
theorem dX8_forbidden_26 : decode cX8_forbidden 26 = .ok (.iadd, 1) := by decide +kernel
theorem dX8_forbidden_27 : decode cX8_forbidden 27 = .ok (.istore_n 1, 1) := by decide +kernel
theorem dX8_forbidden_28 : decode cX8_forbidden 28 = .ok (.iinc 2 1, 3) := by decide +kernel
theorem dX8_forbidden_31 : decode cX8_forbidden 31 = .ok (.goto (-27), 3) := by decide +kernel
theorem dX8_forbidden_34 : decode cX8_forbidden 34 = .ok (.iload_n 1, 1) := by decide +kernel
theorem dX8_forbidden_35 : decode cX8_forbidden 35 = .ok (.ireturn, 1) := by decide +kernel
theorem dX8_tape_0 : decode cX8_tape 0 = .ok (.iload_n 1, 1) := by decide +kernel
theorem dX8_tape_1 : decode cX8_tape 1 = .ok (.invokestatic 300, 3) := by decide +kernel
theorem dX8_tape_4 : decode cX8_tape 4 = .ok (.ifCond .ne 5, 3) := by decide +kernel
theorem dX8_tape_7 : decode cX8_tape 7 = .ok (.iconst (-1), 1) := by decide +kernel
theorem dX8_tape_8 : decode cX8_tape 8 = .ok (.ireturn, 1) := by decide +kernel
theorem dX8_tape_9 : decode cX8_tape 9 = .ok (.iload_n 2, 1) := by decide +kernel
theorem dX8_tape_10 : decode cX8_tape 10 = .ok (.i2l, 1) := by decide +kernel
theorem dX8_tape_11 : decode cX8_tape 11 = .ok (.ldc2_w 167, 3) := by decide +kernel
theorem dX8_tape_14 : decode cX8_tape 14 = .ok (.ldc2_w 306, 3) := by decide +kernel
theorem dX8_tape_17 : decode cX8_tape 17 = .ok (.invokestatic 92, 3) := by decide +kernel
theorem dX8_tape_20 : decode cX8_tape 20 = .ok (.ifCond .eq 13, 3) := by decide +kernel
theorem dX8_tape_23 : decode cX8_tape 23 = .ok (.iload_n 2, 1) := by decide +kernel
theorem dX8_tape_24 : decode cX8_tape 24 = .ok (.ifCond .lt 12, 3) := by decide +kernel
theorem dX8_tape_27 : decode cX8_tape 27 = .ok (.iload_n 3, 1) := by decide +kernel
theorem dX8_tape_28 : decode cX8_tape 28 = .ok (.bipush 60, 2) := by decide +kernel
theorem dX8_tape_30 : decode cX8_tape 30 = .ok (.if_icmp .le 6, 3) := by decide +kernel
theorem dX8_tape_33 : decode cX8_tape 33 = .ok (.bipush (-2), 2) := by decide +kernel
theorem dX8_tape_35 : decode cX8_tape 35 = .ok (.ireturn, 1) := by decide +kernel
theorem dX8_tape_36 : decode cX8_tape 36 = .ok (.iload_n 2, 1) := by decide +kernel
theorem dX8_tape_37 : decode cX8_tape 37 = .ok (.ifCond .lt 10, 3) := by decide +kernel
theorem dX8_tape_40 : decode cX8_tape 40 = .ok (.iload_n 3, 1) := by decide +kernel
theorem dX8_tape_41 : decode cX8_tape 41 = .ok (.ifCond .ge 6, 3) := by decide +kernel
theorem dX8_tape_44 : decode cX8_tape 44 = .ok (.bipush (-14), 2) := by decide +kernel
theorem dX8_tape_46 : decode cX8_tape 46 = .ok (.ireturn, 1) := by decide +kernel
theorem dX8_tape_47 : decode cX8_tape 47 = .ok (.aload_n 0, 1) := by decide +kernel
theorem dX8_tape_48 : decode cX8_tape 48 = .ok (.getfield 78, 3) := by decide +kernel
theorem dX8_tape_51 : decode cX8_tape 51 = .ok (.iload_n 1, 1) := by decide +kernel
theorem dX8_tape_52 : decode cX8_tape 52 = .ok (.iload_n 2, 1) := by decide +kernel
theorem dX8_tape_53 : decode cX8_tape 53 = .ok (.iastore, 1) := by decide +kernel
theorem dX8_tape_54 : decode cX8_tape 54 = .ok (.aload_n 0, 1) := by decide +kernel
theorem dX8_tape_55 : decode cX8_tape 55 = .ok (.getfield 81, 3) := by decide +kernel
theorem dX8_tape_58 : decode cX8_tape 58 = .ok (.iload_n 1, 1) := by decide +kernel
theorem dX8_tape_59 : decode cX8_tape 59 = .ok (.iload_n 2, 1) := by decide +kernel
theorem dX8_tape_60 : decode cX8_tape 60 = .ok (.ifCond .ge 7, 3) := by decide +kernel
theorem dX8_tape_63 : decode cX8_tape 63 = .ok (.iconst 0, 1) := by decide +kernel
theorem dX8_tape_64 : decode cX8_tape 64 = .ok (.goto 4, 3) := by decide +kernel
theorem dX8_tape_67 : decode cX8_tape 67 = .ok (.iload_n 3, 1) := by decide +kernel
theorem dX8_tape_68 : decode cX8_tape 68 = .ok (.iastore, 1) := by decide +kernel
theorem dX8_tape_69 : decode cX8_tape 69 = .ok (.iconst 0, 1) := by decide +kernel
theorem dX8_tape_70 : decode cX8_tape 70 = .ok (.istore 4, 2) := by decide +kernel
theorem dX8_tape_72 : decode cX8_tape 72 = .ok (.iload 4, 2) := by decide +kernel
theorem dX8_tape_74 : decode cX8_tape 74 = .ok (.bipush 60, 2) := by decide +kernel
theorem dX8_tape_76 : decode cX8_tape 76 = .ok (.if_icmp .ge 19, 3) := by decide +kernel
theorem dX8_tape_79 : decode cX8_tape 79 = .ok (.aload_n 0, 1) := by decide +kernel
theorem dX8_tape_80 : decode cX8_tape 80 = .ok (.getfield 75, 3) := by decide +kernel
theorem dX8_tape_83 : decode cX8_tape 83 = .ok (.iload_n 1, 1) := by decide +kernel
theorem dX8_tape_84 : decode cX8_tape 84 = .ok (.aaload, 1) := by decide +kernel
theorem dX8_tape_85 : decode cX8_tape 85 = .ok (.iload 4, 2) := by decide +kernel
theorem dX8_tape_87 : decode cX8_tape 87 = .ok (.lconst 0, 1) := by decide +kernel
theorem dX8_tape_88 : decode cX8_tape 88 = .ok (.lastore, 1) := by decide +kernel
theorem dX8_tape_89 : decode cX8_tape 89 = .ok (.iinc 4 1, 3) := by decide +kernel
theorem dX8_tape_92 : decode cX8_tape 92 = .ok (.goto (-20), 3) := by decide +kernel
theorem dX8_tape_95 : decode cX8_tape 95 = .ok (.iconst 1, 1) := by decide +kernel
theorem dX8_tape_96 : decode cX8_tape 96 = .ok (.ireturn, 1) := by decide +kernel
theorem dX8_fit_0 : decode cX8_fit 0 = .ok (.iload_n 0, 1) := by decide +kernel
theorem dX8_fit_1 : decode cX8_fit 1 = .ok (.tableswitch 47 0 3 #[31, 36, 41, 45], 31) := by decide +kernel
theorem dX8_fit_32 : decode cX8_fit 32 = .ok (.lload_n 1, 1) := by decide +kernel
theorem dX8_fit_33 : decode cX8_fit 33 = .ok (.l2i, 1) := by decide +kernel
theorem dX8_fit_34 : decode cX8_fit 34 = .ok (.i2b, 1) := by decide +kernel
theorem dX8_fit_35 : decode cX8_fit 35 = .ok (.i2l, 1) := by decide +kernel
theorem dX8_fit_36 : decode cX8_fit 36 = .ok (.lreturn, 1) := by decide +kernel
theorem dX8_fit_37 : decode cX8_fit 37 = .ok (.lload_n 1, 1) := by decide +kernel
theorem dX8_fit_38 : decode cX8_fit 38 = .ok (.l2i, 1) := by decide +kernel
theorem dX8_fit_39 : decode cX8_fit 39 = .ok (.i2s, 1) := by decide +kernel
theorem dX8_fit_40 : decode cX8_fit 40 = .ok (.i2l, 1) := by decide +kernel
theorem dX8_fit_41 : decode cX8_fit 41 = .ok (.lreturn, 1) := by decide +kernel
theorem dX8_fit_42 : decode cX8_fit 42 = .ok (.lload_n 1, 1) := by decide +kernel
theorem dX8_fit_43 : decode cX8_fit 43 = .ok (.l2i, 1) := by decide +kernel
theorem dX8_fit_44 : decode cX8_fit 44 = .ok (.i2l, 1) := by decide +kernel
theorem dX8_fit_45 : decode cX8_fit 45 = .ok (.lreturn, 1) := by decide +kernel
theorem dX8_fit_46 : decode cX8_fit 46 = .ok (.lload_n 1, 1) := by decide +kernel
theorem dX8_fit_47 : decode cX8_fit 47 = .ok (.lreturn, 1) := by decide +kernel
theorem dX8_fit_48 : decode cX8_fit 48 = .ok (.lload_n 1, 1) := by decide +kernel
theorem dX8_fit_49 : decode cX8_fit 49 = .ok (.lconst 0, 1) := by decide +kernel
theorem dX8_fit_50 : decode cX8_fit 50 = .ok (.lcmp, 1) := by decide +kernel
theorem dX8_fit_51 : decode cX8_fit 51 = .ok (.ifCond .eq 7, 3) := by decide +kernel
theorem dX8_fit_54 : decode cX8_fit 54 = .ok (.lconst 1, 1) := by decide +kernel
theorem dX8_fit_55 : decode cX8_fit 55 = .ok (.goto 4, 3) := by decide +kernel
theorem dX8_fit_58 : decode cX8_fit 58 = .ok (.lconst 0, 1) := by decide +kernel
theorem dX8_fit_59 : decode cX8_fit 59 = .ok (.lreturn, 1) := by decide +kernel
theorem dX8_item_0 : decode cX8_item 0 = .ok (.iload_n 1, 1) := by decide +kernel
theorem dX8_item_1 : decode cX8_item 1 = .ok (.invokestatic 300, 3) := by decide +kernel
theorem dX8_item_4 : decode cX8_item 4 = .ok (.ifCond .ne 5, 3) := by decide +kernel
theorem dX8_item_7 : decode cX8_item 7 = .ok (.iconst (-1), 1) := by decide +kernel
theorem dX8_item_8 : decode cX8_item 8 = .ok (.ireturn, 1) := by decide +kernel
theorem dX8_item_9 : decode cX8_item 9 = .ok (.aload_n 0, 1) := by decide +kernel
theorem dX8_item_10 : decode cX8_item 10 = .ok (.getfield 78, 3) := by decide +kernel
theorem dX8_item_13 : decode cX8_item 13 = .ok (.iload_n 1, 1) := by decide +kernel
theorem dX8_item_14 : decode cX8_item 14 = .ok (.iaload, 1) := by decide +kernel
theorem dX8_item_15 : decode cX8_item 15 = .ok (.ifCond .ge 6, 3) := by decide +kernel
theorem dX8_item_18 : decode cX8_item 18 = .ok (.bipush (-11), 2) := by decide +kernel
theorem dX8_item_20 : decode cX8_item 20 = .ok (.ireturn, 1) := by decide +kernel
theorem dX8_item_21 : decode cX8_item 21 = .ok (.iload_n 2, 1) := by decide +kernel
theorem dX8_item_22 : decode cX8_item 22 = .ok (.i2l, 1) := by decide +kernel
theorem dX8_item_23 : decode cX8_item 23 = .ok (.lconst 0, 1) := by decide +kernel
theorem dX8_item_24 : decode cX8_item 24 = .ok (.aload_n 0, 1) := by decide +kernel
theorem dX8_item_25 : decode cX8_item 25 = .ok (.getfield 81, 3) := by decide +kernel
theorem dX8_item_28 : decode cX8_item 28 = .ok (.iload_n 1, 1) := by decide +kernel
theorem dX8_item_29 : decode cX8_item 29 = .ok (.iaload, 1) := by decide +kernel
theorem dX8_item_30 : decode cX8_item 30 = .ok (.iconst 1, 1) := by decide +kernel
theorem dX8_item_31 : decode cX8_item 31 = .ok (.isub, 1) := by decide +kernel
theorem dX8_item_32 : decode cX8_item 32 = .ok (.i2l, 1) := by decide +kernel
theorem dX8_item_33 : decode cX8_item 33 = .ok (.invokestatic 92, 3) := by decide +kernel
theorem dX8_item_36 : decode cX8_item 36 = .ok (.ifCond .ne 6, 3) := by decide +kernel
theorem dX8_item_39 : decode cX8_item 39 = .ok (.bipush (-13), 2) := by decide +kernel
theorem dX8_item_41 : decode cX8_item 41 = .ok (.ireturn, 1) := by decide +kernel
theorem dX8_item_42 : decode cX8_item 42 = .ok (.aload_n 0, 1) := by decide +kernel
theorem dX8_item_43 : decode cX8_item 43 = .ok (.getfield 75, 3) := by decide +kernel
theorem dX8_item_46 : decode cX8_item 46 = .ok (.iload_n 1, 1) := by decide +kernel
theorem dX8_item_47 : decode cX8_item 47 = .ok (.aaload, 1) := by decide +kernel
theorem dX8_item_48 : decode cX8_item 48 = .ok (.iload_n 2, 1) := by decide +kernel
theorem dX8_item_49 : decode cX8_item 49 = .ok (.aload_n 0, 1) := by decide +kernel
theorem dX8_item_50 : decode cX8_item 50 = .ok (.getfield 78, 3) := by decide +kernel
theorem dX8_item_53 : decode cX8_item 53 = .ok (.iload_n 1, 1) := by decide +kernel
theorem dX8_item_54 : decode cX8_item 54 = .ok (.iaload, 1) := by decide +kernel
theorem dX8_item_55 : decode cX8_item 55 = .ok (.lload_n 3, 1) := by decide +kernel
theorem dX8_item_56 : decode cX8_item 56 = .ok (.invokestatic 308, 3) := by decide +kernel
theorem dX8_item_59 : decode cX8_item 59 = .ok (.lastore, 1) := by decide +kernel
theorem dX8_item_60 : decode cX8_item 60 = .ok (.iconst 1, 1) := by decide +kernel
theorem dX8_item_61 : decode cX8_item 61 = .ok (.ireturn, 1) := by decide +kernel
theorem dX8_peek_0 : decode cX8_peek 0 = .ok (.iload_n 1, 1) := by decide +kernel
theorem dX8_peek_1 : decode cX8_peek 1 = .ok (.invokestatic 300, 3) := by decide +kernel
theorem dX8_peek_4 : decode cX8_peek 4 = .ok (.ifCond .eq 41, 3) := by decide +kernel
theorem dX8_peek_7 : decode cX8_peek 7 = .ok (.aload_n 0, 1) := by decide +kernel
theorem dX8_peek_8 : decode cX8_peek 8 = .ok (.getfield 78, 3) := by decide +kernel
theorem dX8_peek_11 : decode cX8_peek 11 = .ok (.iload_n 1, 1) := by decide +kernel
theorem dX8_peek_12 : decode cX8_peek 12 = .ok (.iaload, 1) := by decide +kernel
theorem dX8_peek_13 : decode cX8_peek 13 = .ok (.ifCond .lt 32, 3) := by decide +kernel
theorem dX8_peek_16 : decode cX8_peek 16 = .ok (.iload_n 2, 1) := by decide +kernel
theorem dX8_peek_17 : decode cX8_peek 17 = .ok (.i2l, 1) := by decide +kernel
theorem dX8_peek_18 : decode cX8_peek 18 = .ok (.lconst 0, 1) := by decide +kernel
theorem dX8_peek_19 : decode cX8_peek 19 = .ok (.aload_n 0, 1) := by decide +kernel
theorem dX8_peek_20 : decode cX8_peek 20 = .ok (.getfield 81, 3) := by decide +kernel
theorem dX8_peek_23 : decode cX8_peek 23 = .ok (.iload_n 1, 1) := by decide +kernel
theorem dX8_peek_24 : decode cX8_peek 24 = .ok (.iaload, 1) := by decide +kernel
theorem dX8_peek_25 : decode cX8_peek 25 = .ok (.iconst 1, 1) := by decide +kernel
theorem dX8_peek_26 : decode cX8_peek 26 = .ok (.isub, 1) := by decide +kernel
theorem dX8_peek_27 : decode cX8_peek 27 = .ok (.i2l, 1) := by decide +kernel
theorem dX8_peek_28 : decode cX8_peek 28 = .ok (.invokestatic 92, 3) := by decide +kernel
theorem dX8_peek_31 : decode cX8_peek 31 = .ok (.ifCond .eq 14, 3) := by decide +kernel
theorem dX8_peek_34 : decode cX8_peek 34 = .ok (.aload_n 0, 1) := by decide +kernel
theorem dX8_peek_35 : decode cX8_peek 35 = .ok (.getfield 75, 3) := by decide +kernel
theorem dX8_peek_38 : decode cX8_peek 38 = .ok (.iload_n 1, 1) := by decide +kernel
theorem dX8_peek_39 : decode cX8_peek 39 = .ok (.aaload, 1) := by decide +kernel
theorem dX8_peek_40 : decode cX8_peek 40 = .ok (.iload_n 2, 1) := by decide +kernel
theorem dX8_peek_41 : decode cX8_peek 41 = .ok (.laload, 1) := by decide +kernel
theorem dX8_peek_42 : decode cX8_peek 42 = .ok (.goto 6, 3) := by decide +kernel
theorem dX8_peek_45 : decode cX8_peek 45 = .ok (.ldc2_w 233, 3) := by decide +kernel
theorem dX8_peek_48 : decode cX8_peek 48 = .ok (.lreturn, 1) := by decide +kernel
theorem dX8_shift_0 : decode cX8_shift 0 = .ok (.iload_n 1, 1) := by decide +kernel
theorem dX8_shift_1 : decode cX8_shift 1 = .ok (.invokestatic 300, 3) := by decide +kernel
theorem dX8_shift_4 : decode cX8_shift 4 = .ok (.ifCond .eq 10, 3) := by decide +kernel
theorem dX8_shift_7 : decode cX8_shift 7 = .ok (.iload_n 3, 1) := by decide +kernel
theorem dX8_shift_8 : decode cX8_shift 8 = .ok (.invokestatic 300, 3) := by decide +kernel
theorem dX8_shift_11 : decode cX8_shift 11 = .ok (.ifCond .ne 5, 3) := by decide +kernel
theorem dX8_shift_14 : decode cX8_shift 14 = .ok (.iconst (-1), 1) := by decide +kernel
theorem dX8_shift_15 : decode cX8_shift 15 = .ok (.ireturn, 1) := by decide +kernel
theorem dX8_shift_16 : decode cX8_shift 16 = .ok (.aload_n 0, 1) := by decide +kernel
theorem dX8_shift_17 : decode cX8_shift 17 = .ok (.getfield 78, 3) := by decide +kernel
theorem dX8_shift_20 : decode cX8_shift 20 = .ok (.iload_n 1, 1) := by decide +kernel
theorem dX8_shift_21 : decode cX8_shift 21 = .ok (.iaload, 1) := by decide +kernel
theorem dX8_shift_22 : decode cX8_shift 22 = .ok (.ifCond .lt 12, 3) := by decide +kernel
theorem dX8_shift_25 : decode cX8_shift 25 = .ok (.aload_n 0, 1) := by decide +kernel
theorem dX8_shift_26 : decode cX8_shift 26 = .ok (.getfield 78, 3) := by decide +kernel
theorem dX8_shift_29 : decode cX8_shift 29 = .ok (.iload_n 3, 1) := by decide +kernel
theorem dX8_shift_30 : decode cX8_shift 30 = .ok (.iaload, 1) := by decide +kernel
theorem dX8_shift_31 : decode cX8_shift 31 = .ok (.ifCond .ge 6, 3) := by decide +kernel
theorem dX8_shift_34 : decode cX8_shift 34 = .ok (.bipush (-11), 2) := by decide +kernel
theorem dX8_shift_36 : decode cX8_shift 36 = .ok (.ireturn, 1) := by decide +kernel
theorem dX8_shift_37 : decode cX8_shift 37 = .ok (.aload_n 0, 1) := by decide +kernel
theorem dX8_shift_38 : decode cX8_shift 38 = .ok (.getfield 78, 3) := by decide +kernel
theorem dX8_shift_41 : decode cX8_shift 41 = .ok (.iload_n 1, 1) := by decide +kernel
theorem dX8_shift_42 : decode cX8_shift 42 = .ok (.iaload, 1) := by decide +kernel
theorem dX8_shift_43 : decode cX8_shift 43 = .ok (.aload_n 0, 1) := by decide +kernel
theorem dX8_shift_44 : decode cX8_shift 44 = .ok (.getfield 78, 3) := by decide +kernel
theorem dX8_shift_47 : decode cX8_shift 47 = .ok (.iload_n 3, 1) := by decide +kernel
theorem dX8_shift_48 : decode cX8_shift 48 = .ok (.iaload, 1) := by decide +kernel
theorem dX8_shift_49 : decode cX8_shift 49 = .ok (.if_icmp .eq 6, 3) := by decide +kernel
theorem dX8_shift_52 : decode cX8_shift 52 = .ok (.bipush (-12), 2) := by decide +kernel
theorem dX8_shift_54 : decode cX8_shift 54 = .ok (.ireturn, 1) := by decide +kernel
theorem dX8_shift_55 : decode cX8_shift 55 = .ok (.iload 5, 2) := by decide +kernel
theorem dX8_shift_57 : decode cX8_shift 57 = .ok (.ifCond .lt 61, 3) := by decide +kernel
theorem dX8_shift_60 : decode cX8_shift 60 = .ok (.iload_n 2, 1) := by decide +kernel
theorem dX8_shift_61 : decode cX8_shift 61 = .ok (.ifCond .lt 57, 3) := by decide +kernel
theorem dX8_shift_64 : decode cX8_shift 64 = .ok (.iload 4, 2) := by decide +kernel
theorem dX8_shift_66 : decode cX8_shift 66 = .ok (.ifCond .lt 52, 3) := by decide +kernel
theorem dX8_shift_69 : decode cX8_shift 69 = .ok (.iload 5, 2) := by decide +kernel
theorem dX8_shift_71 : decode cX8_shift 71 = .ok (.aload_n 0, 1) := by decide +kernel
theorem dX8_shift_72 : decode cX8_shift 72 = .ok (.getfield 81, 3) := by decide +kernel
theorem dX8_shift_75 : decode cX8_shift 75 = .ok (.iload_n 1, 1) := by decide +kernel
theorem dX8_shift_76 : decode cX8_shift 76 = .ok (.iaload, 1) := by decide +kernel
theorem dX8_shift_77 : decode cX8_shift 77 = .ok (.if_icmp .gt 41, 3) := by decide +kernel
theorem dX8_shift_80 : decode cX8_shift 80 = .ok (.iload 5, 2) := by decide +kernel
theorem dX8_shift_82 : decode cX8_shift 82 = .ok (.aload_n 0, 1) := by decide +kernel
theorem dX8_shift_83 : decode cX8_shift 83 = .ok (.getfield 81, 3) := by decide +kernel
theorem dX8_shift_86 : decode cX8_shift 86 = .ok (.iload_n 3, 1) := by decide +kernel
theorem dX8_shift_87 : decode cX8_shift 87 = .ok (.iaload, 1) := by decide +kernel
theorem dX8_shift_88 : decode cX8_shift 88 = .ok (.if_icmp .gt 30, 3) := by decide +kernel
theorem dX8_shift_91 : decode cX8_shift 91 = .ok (.iload_n 2, 1) := by decide +kernel
theorem dX8_shift_92 : decode cX8_shift 92 = .ok (.aload_n 0, 1) := by decide +kernel
theorem dX8_shift_93 : decode cX8_shift 93 = .ok (.getfield 81, 3) := by decide +kernel
theorem dX8_shift_96 : decode cX8_shift 96 = .ok (.iload_n 1, 1) := by decide +kernel
theorem dX8_shift_97 : decode cX8_shift 97 = .ok (.iaload, 1) := by decide +kernel
theorem dX8_shift_98 : decode cX8_shift 98 = .ok (.iload 5, 2) := by decide +kernel
theorem dX8_shift_100 : decode cX8_shift 100 = .ok (.isub, 1) := by decide +kernel
theorem dX8_shift_101 : decode cX8_shift 101 = .ok (.if_icmp .gt 17, 3) := by decide +kernel
theorem dX8_shift_104 : decode cX8_shift 104 = .ok (.iload 4, 2) := by decide +kernel
theorem dX8_shift_106 : decode cX8_shift 106 = .ok (.aload_n 0, 1) := by decide +kernel
theorem dX8_shift_107 : decode cX8_shift 107 = .ok (.getfield 81, 3) := by decide +kernel
theorem dX8_shift_110 : decode cX8_shift 110 = .ok (.iload_n 3, 1) := by decide +kernel
theorem dX8_shift_111 : decode cX8_shift 111 = .ok (.iaload, 1) := by decide +kernel
theorem dX8_shift_112 : decode cX8_shift 112 = .ok (.iload 5, 2) := by decide +kernel
theorem dX8_shift_114 : decode cX8_shift 114 = .ok (.isub, 1) := by decide +kernel
theorem dX8_shift_115 : decode cX8_shift 115 = .ok (.if_icmp .le 6, 3) := by decide +kernel
theorem dX8_shift_118 : decode cX8_shift 118 = .ok (.bipush (-13), 2) := by decide +kernel
theorem dX8_shift_120 : decode cX8_shift 120 = .ok (.ireturn, 1) := by decide +kernel
theorem dX8_shift_121 : decode cX8_shift 121 = .ok (.iconst 0, 1) := by decide +kernel
theorem dX8_shift_122 : decode cX8_shift 122 = .ok (.istore 6, 2) := by decide +kernel
theorem dX8_shift_124 : decode cX8_shift 124 = .ok (.iload 6, 2) := by decide +kernel
theorem dX8_shift_126 : decode cX8_shift 126 = .ok (.iload 5, 2) := by decide +kernel
theorem dX8_shift_128 : decode cX8_shift 128 = .ok (.if_icmp .ge 27, 3) := by decide +kernel
theorem dX8_shift_131 : decode cX8_shift 131 = .ok (.aload_n 0, 1) := by decide +kernel
theorem dX8_shift_132 : decode cX8_shift 132 = .ok (.getfield 84, 3) := by decide +kernel
theorem dX8_shift_135 : decode cX8_shift 135 = .ok (.iload 6, 2) := by decide +kernel
theorem dX8_shift_137 : decode cX8_shift 137 = .ok (.aload_n 0, 1) := by decide +kernel
theorem dX8_shift_138 : decode cX8_shift 138 = .ok (.getfield 75, 3) := by decide +kernel
theorem dX8_shift_141 : decode cX8_shift 141 = .ok (.iload_n 1, 1) := by decide +kernel
theorem dX8_shift_142 : decode cX8_shift 142 = .ok (.aaload, 1) := by decide +kernel
theorem dX8_shift_143 : decode cX8_shift 143 = .ok (.iload_n 2, 1) := by decide +kernel
theorem dX8_shift_144 : decode cX8_shift 144 = .ok (.iload 6, 2) := by decide +kernel
theorem dX8_shift_146 : decode cX8_shift 146 = .ok (.iadd, 1) := by decide +kernel
theorem dX8_shift_147 : decode cX8_shift 147 = .ok (.laload, 1) := by decide +kernel
theorem dX8_shift_148 : decode cX8_shift 148 = .ok (.lastore, 1) := by decide +kernel
theorem dX8_shift_149 : decode cX8_shift 149 = .ok (.iinc 6 1, 3) := by decide +kernel
theorem dX8_shift_152 : decode cX8_shift 152 = .ok (.goto (-28), 3) := by decide +kernel
theorem dX8_shift_155 : decode cX8_shift 155 = .ok (.iconst 0, 1) := by decide +kernel
theorem dX8_shift_156 : decode cX8_shift 156 = .ok (.istore 6, 2) := by decide +kernel
theorem dX8_shift_158 : decode cX8_shift 158 = .ok (.iload 6, 2) := by decide +kernel
theorem dX8_shift_160 : decode cX8_shift 160 = .ok (.iload 5, 2) := by decide +kernel
theorem dX8_shift_162 : decode cX8_shift 162 = .ok (.if_icmp .ge 28, 3) := by decide +kernel
theorem dX8_shift_165 : decode cX8_shift 165 = .ok (.aload_n 0, 1) := by decide +kernel
theorem dX8_shift_166 : decode cX8_shift 166 = .ok (.getfield 75, 3) := by decide +kernel
theorem dX8_shift_169 : decode cX8_shift 169 = .ok (.iload_n 3, 1) := by decide +kernel
theorem dX8_shift_170 : decode cX8_shift 170 = .ok (.aaload, 1) := by decide +kernel
theorem dX8_shift_171 : decode cX8_shift 171 = .ok (.iload 4, 2) := by decide +kernel
theorem dX8_shift_173 : decode cX8_shift 173 = .ok (.iload 6, 2) := by decide +kernel
theorem dX8_shift_175 : decode cX8_shift 175 = .ok (.iadd, 1) := by decide +kernel
theorem dX8_shift_176 : decode cX8_shift 176 = .ok (.aload_n 0, 1) := by decide +kernel
theorem dX8_shift_177 : decode cX8_shift 177 = .ok (.getfield 84, 3) := by decide +kernel
theorem dX8_shift_180 : decode cX8_shift 180 = .ok (.iload 6, 2) := by decide +kernel
theorem dX8_shift_182 : decode cX8_shift 182 = .ok (.laload, 1) := by decide +kernel
theorem dX8_shift_183 : decode cX8_shift 183 = .ok (.lastore, 1) := by decide +kernel
theorem dX8_shift_184 : decode cX8_shift 184 = .ok (.iinc 6 1, 3) := by decide +kernel
theorem dX8_shift_187 : decode cX8_shift 187 = .ok (.goto (-29), 3) := by decide +kernel
theorem dX8_shift_190 : decode cX8_shift 190 = .ok (.iload 5, 2) := by decide +kernel
theorem dX8_shift_192 : decode cX8_shift 192 = .ok (.ireturn, 1) := by decide +kernel
